/-! MEMBERS OF THE LIBRARY that change nothing: contracts over the machine -/
def qj_X (K V N : Nat) (f : Nat → Int32) (A : Nat → Prop) (U : State) (H : Heap) : Prop :=
  va_O "java/lang/String" K A U H ∧ va_OF "java/lang/String" "coder" "B" (.int 0) K A U H ∧ va_OF "java/lang/String" "value" "[B" (.ref V) K A U H ∧ va_T .byte V N (fun j => .int (f j)) A U H ∧
  va_Z "java/lang/String" "COMPACT_STRINGS" "Z" (.int 1) A U H ∧ va_Zq "jdk/internal/util/Preconditions" "SIOOBE_FORMATTER" "Ljava/util/function/BiFunction;" A U H
theorem qj_X.moved {K V N : Nat} {f : Nat → Int32} {A : Nat → Prop} {u U : State} {H : Heap} (hvm : u.vm.Alike U.vm) (h : qj_X K V N f A u H) : qj_X K V N f A U H :=
  ⟨va_O.moved hvm h.1, va_OF.moved hvm h.2.1, va_OF.moved hvm h.2.2.1, va_T.moved hvm h.2.2.2.1, va_Z.moved hvm h.2.2.2.2.1, va_Zq.moved hvm h.2.2.2.2.2⟩
theorem qj_X.kept {K V N : Nat} {f : Nat → Int32} {A : Nat → Prop} {U : State} {H H1 : Heap} (h : qj_X K V N f A U H) (hq : ∀ a : Nat, a < H.size → ¬ A a → H1[a]? = H[a]?) : qj_X K V N f A U H1 :=
  ⟨h.1.kept hq, h.2.1.kept hq, h.2.2.1.kept hq, h.2.2.2.1.kept hq, h.2.2.2.2.1.kept hq, h.2.2.2.2.2.kept hq⟩
theorem qj_X.narrow {K V N : Nat} {f : Nat → Int32} {A B : Nat → Prop} {U : State} {H : Heap} (h : qj_X K V N f A U H) (hAB : ∀ q, B q → A q) : qj_X K V N f B U H :=
  ⟨h.1.narrow hAB, h.2.1.narrow hAB, h.2.2.1.narrow hAB, h.2.2.2.1.narrow hAB, h.2.2.2.2.1.narrow hAB, h.2.2.2.2.2.narrow hAB⟩
def qj_P (K V N : Nat) (f : Nat → Int32) (as : List Value) : Array Value → State → Prop := fun av U => av = as.toArray ∧ qj_X K V N f (fun _ => False) U U.heap
def qj_Q (v : Option Value) : Array Value → State → Outcome → State → Prop := fun _ st o t => o = .returned v ∧ t.heap = st.heap
theorem qj_blind (K V N : Nat) (f : Nat → Int32) (as : List Value) : FrameBlind (qj_P K V N f as) := by
  intro a U g mk q
  exact ⟨q.1, qj_X.moved (u := U) (U := U.calling g mk a) (Vm.Alike.refl U.vm) q.2⟩
theorem qj_pre {s : State} {H : Heap} {locs : List Loc} {Af : Nat → Prop} {K V N : Nat} {f : Nat → Int32} (hX : qj_X K V N f Af s s.heap) (hS : va_S Af s.heap H locs) (as : List Value) : ∀ U : State, U.heap = H → s.WarmedH U.vm → qj_P K V N f as as.toArray U := by
  intro U hU hW
  refine ⟨rfl, ?_⟩
  rw [hU]
  exact ((hX.moved hW.alike).kept (fun a h1 h2 => hS.2.1 a h1 h2)).narrow (fun _ h => h.elim)
section QJ
variable {p : Program} {l : Launch} {e : Env} {R : Room} {s : State} {m : MethodId} {args : Array Value} {below : List Frame} {meth : Method} {c : Code} {H : Heap} {locs : List Loc} {cells slots : Nat} {Q : State → Prop}
variable {cc : ByteArray} {pc nL d n index maxL : Nat} {ls : Array Slot} {own : String} {y : MethodName} {bytes : ByteArray} {ret : Option FieldType} {As rest : List Value} {v : Option Value} {Pc : Array Value → State → Prop}
theorem qj_cont {st0 : List Value} {a : Array Value} (hr : va_Run p l e R s m args below meth c H locs cells slots 0 0 (F0 m pc ls st0) rest (qj_Q v a) (fun _ => False)) (kk : W p l e R s m args below meth c H locs cells slots Q (F0 m (pc + 3) ls (v.toList ++ rest))) : W p l e R s m args below meth c H locs cells slots Q (F0 m pc ls st0) := by
  intro T hT X
  obtain ⟨v', st₀, t, T', L, h0, X', hL, e1, e2, ⟨hv, hh⟩, st⟩ := hr T hT X
  have hv' := Outcome.returned.inj hv
  subst hv'
  have hL0 : L = [] := by
    cases L with
    | nil => rfl
    | cons q L => exact (hL q List.mem_cons_self).elim
  subst hL0
  rw [List.append_nil] at X'
  obtain ⟨t2, a1, b1⟩ := kk T' (by rw [e1, hh, h0]) X'
  exact ⟨t2, st t2 a1, b1⟩
theorem qj_goodIn (hcode : Cond.code y bytes maxL ret ∈ lw_tbl) : GoodIn qm_T (Cond.code y bytes maxL ret :: qm_T) := by
  intro w hw
  rcases List.mem_cons.mp hw with rfl | hw
  · exact ⟨qw_T hcode rfl, good_of_word rfl⟩
  · exact ⟨hw, good_of_word (qw_g hw)⟩
theorem qj_cS (hx : p.tables.exec = Jvm.exec) (hb : c.code = cc) (hml : c.maxLocals = nL) (hown : s.vm.findClass own = some m.cls) (hts : ∀ w ∈ qm_T, w.before args s = true) (hM : Met l y (Cond.code y bytes maxL ret :: qm_T) (qm_rm d 0 0) Pc (qj_Q v) 0 0 (fun _ => False)) (hcode : Cond.code y bytes maxL ret ∈ lw_tbl) (hini : Cond.initialized y.cls ∈ lw_tbl) (hlk : Cond.methodLink own index y ∈ lw_tbl) (hst : Cond.static y ∈ lw_tbl)
    (hd : y.cls ≠ "java/lang/invoke/MethodHandle" ∧ y.cls ≠ "java/lang/invoke/VarHandle" ∧ (parseMethodDescriptor y.desc).map (fun d => d.parameters.length) = some n) (hmx : maxL ≤ 21) (hn : As.length = n) (hp : PreS s H Pc As) (hsz : ls.size = nL) (hcat : (rest.map fun v => v.category).sum ≤ 8) (hRf : d + 2 ≤ R.frames) (hRl : 40 * d + 80 ≤ R.locals) (hC : cells ≤ R.cells) (hSl : slots ≤ R.slots) (hdg : decode cc pc = .ok (.invokestatic index, 3))
    (kk : W p l e R s m args below meth c H locs cells slots Q (F0 m (pc + 3) ls (v.toList ++ rest))) : W p l e R s m args below meth c H locs cells slots Q (F0 m pc ls (As.reverse ++ rest)) := by
  refine qj_cont (va_runS (As := As) (rest := rest) ⟨hx, hb, hml, hown, hts⟩ hM ⟨callB_of n hts (qj_goodIn hcode) rfl rfl rfl (hts _ (qw_T hini rfl)) (hts _ (qw_T hlk rfl)) hd ⟨hRf, ?_⟩, hts _ (qw_T hst rfl)⟩ hp rfl hn hsz rfl (lv_room hcat) hdg ⟨hC, hSl⟩) kk
  show 8 + (maxL + 11) + (40 * d + 40) ≤ R.locals
  omega
theorem qj_cV {b : Nat} (hx : p.tables.exec = Jvm.exec) (hb : c.code = cc) (hml : c.maxLocals = nL) (hown : s.vm.findClass own = some m.cls) (hts : ∀ w ∈ qm_T, w.before args s = true) (hM : Met l y (Cond.code y bytes maxL ret :: qm_T) (qm_rm d 0 0) Pc (qj_Q v) 0 0 (fun _ => False)) (hcode : Cond.code y bytes maxL ret ∈ lw_tbl) (hini : Cond.initialized y.cls ∈ lw_tbl) (hlk : Cond.methodLink own index y ∈ lw_tbl) (hin : Cond.instanceMethod y ∈ lw_tbl) (hse : Cond.selects y.cls y y ∈ lw_tbl)
    (hd : y.cls ≠ "java/lang/invoke/MethodHandle" ∧ y.cls ≠ "java/lang/invoke/VarHandle" ∧ (parseMethodDescriptor y.desc).map (fun d => d.parameters.length) = some n) (hmx : maxL ≤ 21) (hn : As.length = n) (hp : PreV s H y.cls b Pc As) (hsz : ls.size = nL) (hcat : (rest.map fun v => v.category).sum ≤ 8) (hRf : d + 2 ≤ R.frames) (hRl : 40 * d + 80 ≤ R.locals) (hC : cells ≤ R.cells) (hSl : slots ≤ R.slots) (hdg : decode cc pc = .ok (.invokevirtual index, 3))
    (kk : W p l e R s m args below meth c H locs cells slots Q (F0 m (pc + 3) ls (v.toList ++ rest))) : W p l e R s m args below meth c H locs cells slots Q (F0 m pc ls (As.reverse ++ .ref b :: rest)) := by
  refine qj_cont (va_runV (C := y.cls) (b := b) (As := As) (rest := rest) ⟨hx, hb, hml, hown, hts⟩ hM (cwV n hts ?_ rfl rfl rfl ⟨rfl, hd⟩ ⟨hRf, ?_⟩) hp rfl hn hsz rfl (lv_room hcat) hdg ⟨hC, hSl⟩) kk
  · intro w hw
    unfold wsV at hw
    rcases List.mem_append.mp hw with hw | hw
    · simp only [List.mem_cons, List.not_mem_nil, or_false] at hw
      rcases hw with rfl | rfl | rfl | rfl
      · exact ⟨qw_T hlk rfl, good_of_word rfl⟩
      · exact ⟨qw_T hin rfl, good_of_word rfl⟩
      · exact ⟨qw_T hse rfl, good_of_word rfl⟩
      · exact ⟨qw_T hini rfl, good_of_word rfl⟩
    · exact qj_goodIn hcode w hw
  · show 8 + (maxL + 11) + (40 * d + 40) ≤ R.locals
    omega
end QJ
theorem dJ0_coder_7d493_0 : decode cJ0_coder_7d493 0 = .ok (.getstatic 38, 3) := by decide +kernel
theorem dJ0_coder_7d493_3 : decode cJ0_coder_7d493 3 = .ok (.ifCond .eq 10, 3) := by decide +kernel
theorem dJ0_coder_7d493_6 : decode cJ0_coder_7d493 6 = .ok (.aload_n 0, 1) := by decide +kernel
theorem dJ0_coder_7d493_7 : decode cJ0_coder_7d493 7 = .ok (.getfield 15, 3) := by decide +kernel
theorem dJ0_coder_7d493_10 : decode cJ0_coder_7d493 10 = .ok (.goto 4, 3) := by decide +kernel
theorem dJ0_coder_7d493_13 : decode cJ0_coder_7d493 13 = .ok (.iconst 1, 1) := by decide +kernel
theorem dJ0_coder_7d493_14 : decode cJ0_coder_7d493 14 = .ok (.ireturn, 1) := by decide +kernel
theorem dJ0_isLatin1_aae02_0 : decode cJ0_isLatin1_aae02 0 = .ok (.getstatic 38, 3) := by decide +kernel
theorem dJ0_isLatin1_aae02_3 : decode cJ0_isLatin1_aae02 3 = .ok (.ifCond .eq 14, 3) := by decide +kernel
theorem dJ0_isLatin1_aae02_6 : decode cJ0_isLatin1_aae02 6 = .ok (.aload_n 0, 1) := by decide +kernel
theorem dJ0_isLatin1_aae02_7 : decode cJ0_isLatin1_aae02 7 = .ok (.getfield 15, 3) := by decide +kernel
theorem dJ0_isLatin1_aae02_10 : decode cJ0_isLatin1_aae02 10 = .ok (.ifCond .ne 7, 3) := by decide +kernel
theorem dJ0_isLatin1_aae02_13 : decode cJ0_isLatin1_aae02 13 = .ok (.iconst 1, 1) := by decide +kernel
theorem dJ0_isLatin1_aae02_14 : decode cJ0_isLatin1_aae02 14 = .ok (.goto 4, 3) := by decide +kernel
theorem dJ0_isLatin1_aae02_17 : decode cJ0_isLatin1_aae02 17 = .ok (.iconst 0, 1) := by decide +kernel
theorem dJ0_isLatin1_aae02_18 : decode cJ0_isLatin1_aae02 18 = .ok (.ireturn, 1) := by decide +kernel
theorem dJ0_length_8abf5_0 : decode cJ0_length_8abf5 0 = .ok (.aload_n 0, 1) := by decide +kernel
theorem dJ0_length_8abf5_1 : decode cJ0_length_8abf5 1 = .ok (.getfield 9, 3) := by decide +kernel
theorem dJ0_length_8abf5_4 : decode cJ0_length_8abf5 4 = .ok (.arraylength, 1) := by decide +kernel
theorem dJ0_length_8abf5_5 : decode cJ0_length_8abf5 5 = .ok (.aload_n 0, 1) := by decide +kernel
theorem dJ0_length_8abf5_6 : decode cJ0_length_8abf5 6 = .ok (.invokevirtual 335, 3) := by decide +kernel
theorem dJ0_length_8abf5_9 : decode cJ0_length_8abf5 9 = .ok (.ishr, 1) := by decide +kernel
theorem dJ0_length_8abf5_10 : decode cJ0_length_8abf5 10 = .ok (.ireturn, 1) := by decide +kernel
theorem dJ3_checkIndex_8e157_0 : decode cJ3_checkIndex_8e157 0 = .ok (.iload_n 0, 1) := by decide +kernel
theorem dJ3_checkIndex_8e157_1 : decode cJ3_checkIndex_8e157 1 = .ok (.ifCond .lt 8, 3) := by decide +kernel
theorem dJ3_checkIndex_8e157_4 : decode cJ3_checkIndex_8e157 4 = .ok (.iload_n 0, 1) := by decide +kernel
theorem dJ3_checkIndex_8e157_5 : decode cJ3_checkIndex_8e157 5 = .ok (.iload_n 1, 1) := by decide +kernel
theorem dJ3_checkIndex_8e157_6 : decode cJ3_checkIndex_8e157 6 = .ok (.if_icmp .lt 10, 3) := by decide +kernel
theorem dJ3_checkIndex_8e157_9 : decode cJ3_checkIndex_8e157 9 = .ok (.aload_n 2, 1) := by decide +kernel
theorem dJ3_checkIndex_8e157_10 : decode cJ3_checkIndex_8e157 10 = .ok (.iload_n 0, 1) := by decide +kernel
theorem dJ3_checkIndex_8e157_11 : decode cJ3_checkIndex_8e157 11 = .ok (.iload_n 1, 1) := by decide +kernel
theorem dJ3_checkIndex_8e157_12 : decode cJ3_checkIndex_8e157 12 = .ok (.invokestatic 95, 3) := by decide +kernel
theorem dJ3_checkIndex_8e157_15 : decode cJ3_checkIndex_8e157 15 = .ok (.athrow, 1) := by decide +kernel
theorem dJ3_checkIndex_8e157_16 : decode cJ3_checkIndex_8e157 16 = .ok (.iload_n 0, 1) := by decide +kernel
theorem dJ3_checkIndex_8e157_17 : decode cJ3_checkIndex_8e157 17 = .ok (.ireturn, 1) := by decide +kernel
theorem dJ0_checkIndex_df160_0 : decode cJ0_checkIndex_df160 0 = .ok (.iload_n 0, 1) := by decide +kernel
theorem dJ0_checkIndex_df160_1 : decode cJ0_checkIndex_df160 1 = .ok (.iload_n 1, 1) := by decide +kernel
theorem dJ0_checkIndex_df160_2 : decode cJ0_checkIndex_df160 2 = .ok (.getstatic 1053, 3) := by decide +kernel
theorem dJ0_checkIndex_df160_5 : decode cJ0_checkIndex_df160 5 = .ok (.invokestatic 1059, 3) := by decide +kernel
theorem dJ0_checkIndex_df160_8 : decode cJ0_checkIndex_df160 8 = .ok (.pop, 1) := by decide +kernel
theorem dJ0_checkIndex_df160_9 : decode cJ0_checkIndex_df160 9 = .ok (.return_, 1) := by decide +kernel
theorem dJ1_charAt_3b067_0 : decode cJ1_charAt_3b067 0 = .ok (.iload_n 1, 1) := by decide +kernel
theorem dJ1_charAt_3b067_1 : decode cJ1_charAt_3b067 1 = .ok (.aload_n 0, 1) := by decide +kernel
theorem dJ1_charAt_3b067_2 : decode cJ1_charAt_3b067 2 = .ok (.arraylength, 1) := by decide +kernel
theorem dJ1_charAt_3b067_3 : decode cJ1_charAt_3b067 3 = .ok (.invokestatic 9, 3) := by decide +kernel
theorem dJ1_charAt_3b067_6 : decode cJ1_charAt_3b067 6 = .ok (.aload_n 0, 1) := by decide +kernel
theorem dJ1_charAt_3b067_7 : decode cJ1_charAt_3b067 7 = .ok (.iload_n 1, 1) := by decide +kernel
theorem dJ1_charAt_3b067_8 : decode cJ1_charAt_3b067 8 = .ok (.baload, 1) := by decide +kernel
theorem dJ1_charAt_3b067_9 : decode cJ1_charAt_3b067 9 = .ok (.sipush 255, 3) := by decide +kernel
theorem dJ1_charAt_3b067_12 : decode cJ1_charAt_3b067 12 = .ok (.iand, 1) := by decide +kernel
theorem dJ1_charAt_3b067_13 : decode cJ1_charAt_3b067 13 = .ok (.i2c, 1) := by decide +kernel
theorem dJ1_charAt_3b067_14 : decode cJ1_charAt_3b067 14 = .ok (.ireturn, 1) := by decide +kernel
theorem dJ0_charAt_5068e_0 : decode cJ0_charAt_5068e 0 = .ok (.aload_n 0, 1) := by decide +kernel
theorem dJ0_charAt_5068e_1 : decode cJ0_charAt_5068e 1 = .ok (.invokevirtual 492, 3) := by decide +kernel
theorem dJ0_charAt_5068e_4 : decode cJ0_charAt_5068e 4 = .ok (.ifCond .eq 12, 3) := by decide +kernel
theorem dJ0_charAt_5068e_7 : decode cJ0_charAt_5068e 7 = .ok (.aload_n 0, 1) := by decide +kernel
theorem dJ0_charAt_5068e_8 : decode cJ0_charAt_5068e 8 = .ok (.getfield 9, 3) := by decide +kernel
theorem dJ0_charAt_5068e_11 : decode cJ0_charAt_5068e 11 = .ok (.iload_n 1, 1) := by decide +kernel
theorem dJ0_charAt_5068e_12 : decode cJ0_charAt_5068e 12 = .ok (.invokestatic 495, 3) := by decide +kernel
theorem dJ0_charAt_5068e_15 : decode cJ0_charAt_5068e 15 = .ok (.ireturn, 1) := by decide +kernel
theorem dJ0_charAt_5068e_16 : decode cJ0_charAt_5068e 16 = .ok (.aload_n 0, 1) := by decide +kernel
theorem dJ0_charAt_5068e_17 : decode cJ0_charAt_5068e 17 = .ok (.getfield 9, 3) := by decide +kernel
theorem dJ0_charAt_5068e_20 : decode cJ0_charAt_5068e 20 = .ok (.iload_n 1, 1) := by decide +kernel
theorem dJ0_charAt_5068e_21 : decode cJ0_charAt_5068e 21 = .ok (.invokestatic 498, 3) := by decide +kernel
theorem dJ0_charAt_5068e_24 : decode cJ0_charAt_5068e 24 = .ok (.ireturn, 1) := by decide +kernel
theorem dJ1_canEncode_9a6ad_0 : decode cJ1_canEncode_9a6ad 0 = .ok (.iload_n 0, 1) := by decide +kernel
theorem dJ1_canEncode_9a6ad_1 : decode cJ1_canEncode_9a6ad 1 = .ok (.ifCond .lt 14, 3) := by decide +kernel
theorem dJ1_canEncode_9a6ad_4 : decode cJ1_canEncode_9a6ad 4 = .ok (.iload_n 0, 1) := by decide +kernel
theorem dJ1_canEncode_9a6ad_5 : decode cJ1_canEncode_9a6ad 5 = .ok (.sipush 255, 3) := by decide +kernel
theorem dJ1_canEncode_9a6ad_8 : decode cJ1_canEncode_9a6ad 8 = .ok (.if_icmp .gt 7, 3) := by decide +kernel
theorem dJ1_canEncode_9a6ad_11 : decode cJ1_canEncode_9a6ad 11 = .ok (.iconst 1, 1) := by decide +kernel
theorem dJ1_canEncode_9a6ad_12 : decode cJ1_canEncode_9a6ad 12 = .ok (.goto 4, 3) := by decide +kernel
theorem dJ1_canEncode_9a6ad_15 : decode cJ1_canEncode_9a6ad 15 = .ok (.iconst 0, 1) := by decide +kernel
theorem dJ1_canEncode_9a6ad_16 : decode cJ1_canEncode_9a6ad 16 = .ok (.ireturn, 1) := by decide +kernel
theorem dJ1_indexOfChar_4cfef_0 : decode cJ1_indexOfChar_4cfef 0 = .ok (.iload_n 1, 1) := by decide +kernel
theorem dJ1_indexOfChar_4cfef_1 : decode cJ1_indexOfChar_4cfef 1 = .ok (.i2b, 1) := by decide +kernel
theorem dJ1_indexOfChar_4cfef_2 : decode cJ1_indexOfChar_4cfef 2 = .ok (.istore 4, 2) := by decide +kernel
theorem dJ1_indexOfChar_4cfef_4 : decode cJ1_indexOfChar_4cfef 4 = .ok (.iload_n 2, 1) := by decide +kernel
theorem dJ1_indexOfChar_4cfef_5 : decode cJ1_indexOfChar_4cfef 5 = .ok (.istore 5, 2) := by decide +kernel
theorem dJ1_indexOfChar_4cfef_7 : decode cJ1_indexOfChar_4cfef 7 = .ok (.iload 5, 2) := by decide +kernel
theorem dJ1_indexOfChar_4cfef_9 : decode cJ1_indexOfChar_4cfef 9 = .ok (.iload_n 3, 1) := by decide +kernel
theorem dJ1_indexOfChar_4cfef_10 : decode cJ1_indexOfChar_4cfef 10 = .ok (.if_icmp .ge 21, 3) := by decide +kernel
theorem dJ1_indexOfChar_4cfef_13 : decode cJ1_indexOfChar_4cfef 13 = .ok (.aload_n 0, 1) := by decide +kernel
theorem dJ1_indexOfChar_4cfef_14 : decode cJ1_indexOfChar_4cfef 14 = .ok (.iload 5, 2) := by decide +kernel
theorem dJ1_indexOfChar_4cfef_16 : decode cJ1_indexOfChar_4cfef 16 = .ok (.baload, 1) := by decide +kernel
theorem dJ1_indexOfChar_4cfef_17 : decode cJ1_indexOfChar_4cfef 17 = .ok (.iload 4, 2) := by decide +kernel
theorem dJ1_indexOfChar_4cfef_19 : decode cJ1_indexOfChar_4cfef 19 = .ok (.if_icmp .ne 6, 3) := by decide +kernel
theorem dJ1_indexOfChar_4cfef_22 : decode cJ1_indexOfChar_4cfef 22 = .ok (.iload 5, 2) := by decide +kernel
theorem dJ1_indexOfChar_4cfef_24 : decode cJ1_indexOfChar_4cfef 24 = .ok (.ireturn, 1) := by decide +kernel
theorem dJ1_indexOfChar_4cfef_25 : decode cJ1_indexOfChar_4cfef 25 = .ok (.iinc 5 1, 3) := by decide +kernel
theorem dJ1_indexOfChar_4cfef_28 : decode cJ1_indexOfChar_4cfef 28 = .ok (.goto (-21), 3) := by decide +kernel
theorem dJ1_indexOfChar_4cfef_31 : decode cJ1_indexOfChar_4cfef 31 = .ok (.iconst (-1), 1) := by decide +kernel
theorem dJ1_indexOfChar_4cfef_32 : decode cJ1_indexOfChar_4cfef 32 = .ok (.ireturn, 1) := by decide +kernel
theorem dJ1_indexOf_4cfef_0 : decode cJ1_indexOf_4cfef 0 = .ok (.iload_n 1, 1) := by decide +kernel
theorem dJ1_indexOf_4cfef_1 : decode cJ1_indexOf_4cfef 1 = .ok (.invokestatic 88, 3) := by decide +kernel
theorem dJ1_indexOf_4cfef_4 : decode cJ1_indexOf_4cfef 4 = .ok (.ifCond .ne 5, 3) := by decide +kernel
theorem dJ1_indexOf_4cfef_7 : decode cJ1_indexOf_4cfef 7 = .ok (.iconst (-1), 1) := by decide +kernel
theorem dJ1_indexOf_4cfef_8 : decode cJ1_indexOf_4cfef 8 = .ok (.ireturn, 1) := by decide +kernel
theorem dJ1_indexOf_4cfef_9 : decode cJ1_indexOf_4cfef 9 = .ok (.iload_n 2, 1) := by decide +kernel
theorem dJ1_indexOf_4cfef_10 : decode cJ1_indexOf_4cfef 10 = .ok (.iconst 0, 1) := by decide +kernel
theorem dJ1_indexOf_4cfef_11 : decode cJ1_indexOf_4cfef 11 = .ok (.invokestatic 92, 3) := by decide +kernel
theorem dJ1_indexOf_4cfef_14 : decode cJ1_indexOf_4cfef 14 = .ok (.istore_n 2, 1) := by decide +kernel
theorem dJ1_indexOf_4cfef_15 : decode cJ1_indexOf_4cfef 15 = .ok (.iload_n 3, 1) := by decide +kernel
theorem dJ1_indexOf_4cfef_16 : decode cJ1_indexOf_4cfef 16 = .ok (.aload_n 0, 1) := by decide +kernel
theorem dJ1_indexOf_4cfef_17 : decode cJ1_indexOf_4cfef 17 = .ok (.arraylength, 1) := by decide +kernel
theorem dJ1_indexOf_4cfef_18 : decode cJ1_indexOf_4cfef 18 = .ok (.invokestatic 38, 3) := by decide +kernel
theorem dJ1_indexOf_4cfef_21 : decode cJ1_indexOf_4cfef 21 = .ok (.istore_n 3, 1) := by decide +kernel
theorem dJ1_indexOf_4cfef_22 : decode cJ1_indexOf_4cfef 22 = .ok (.iload_n 2, 1) := by decide +kernel
theorem dJ1_indexOf_4cfef_23 : decode cJ1_indexOf_4cfef 23 = .ok (.iload_n 3, 1) := by decide +kernel
theorem dJ1_indexOf_4cfef_24 : decode cJ1_indexOf_4cfef 24 = .ok (.if_icmp .lt 5, 3) := by decide +kernel
theorem dJ1_indexOf_4cfef_27 : decode cJ1_indexOf_4cfef 27 = .ok (.iconst (-1), 1) := by decide +kernel
theorem dJ1_indexOf_4cfef_28 : decode cJ1_indexOf_4cfef 28 = .ok (.ireturn, 1) := by decide +kernel
theorem dJ1_indexOf_4cfef_29 : decode cJ1_indexOf_4cfef 29 = .ok (.aload_n 0, 1) := by decide +kernel
theorem dJ1_indexOf_4cfef_30 : decode cJ1_indexOf_4cfef 30 = .ok (.iload_n 1, 1) := by decide +kernel
theorem dJ1_indexOf_4cfef_31 : decode cJ1_indexOf_4cfef 31 = .ok (.iload_n 2, 1) := by decide +kernel
theorem dJ1_indexOf_4cfef_32 : decode cJ1_indexOf_4cfef 32 = .ok (.iload_n 3, 1) := by decide +kernel
theorem dJ1_indexOf_4cfef_33 : decode cJ1_indexOf_4cfef 33 = .ok (.invokestatic 95, 3) := by decide +kernel
theorem dJ1_indexOf_4cfef_36 : decode cJ1_indexOf_4cfef 36 = .ok (.ireturn, 1) := by decide +kernel
theorem dJ0_indexOf_7cf53_0 : decode cJ0_indexOf_7cf53 0 = .ok (.aload_n 0, 1) := by decide +kernel
theorem dJ0_indexOf_7cf53_1 : decode cJ0_indexOf_7cf53 1 = .ok (.invokevirtual 492, 3) := by decide +kernel
theorem dJ0_indexOf_7cf53_4 : decode cJ0_indexOf_7cf53 4 = .ok (.ifCond .eq 19, 3) := by decide +kernel
theorem dJ0_indexOf_7cf53_7 : decode cJ0_indexOf_7cf53 7 = .ok (.aload_n 0, 1) := by decide +kernel
theorem dJ0_indexOf_7cf53_8 : decode cJ0_indexOf_7cf53 8 = .ok (.getfield 9, 3) := by decide +kernel
theorem dJ0_indexOf_7cf53_11 : decode cJ0_indexOf_7cf53 11 = .ok (.iload_n 1, 1) := by decide +kernel
theorem dJ0_indexOf_7cf53_12 : decode cJ0_indexOf_7cf53 12 = .ok (.iload_n 2, 1) := by decide +kernel
theorem dJ0_indexOf_7cf53_13 : decode cJ0_indexOf_7cf53 13 = .ok (.aload_n 0, 1) := by decide +kernel
theorem dJ0_indexOf_7cf53_14 : decode cJ0_indexOf_7cf53 14 = .ok (.invokevirtual 505, 3) := by decide +kernel
theorem dJ0_indexOf_7cf53_17 : decode cJ0_indexOf_7cf53 17 = .ok (.invokestatic 637, 3) := by decide +kernel
theorem dJ0_indexOf_7cf53_20 : decode cJ0_indexOf_7cf53 20 = .ok (.goto 16, 3) := by decide +kernel
theorem dJ0_indexOf_7cf53_23 : decode cJ0_indexOf_7cf53 23 = .ok (.aload_n 0, 1) := by decide +kernel
theorem dJ0_indexOf_7cf53_24 : decode cJ0_indexOf_7cf53 24 = .ok (.getfield 9, 3) := by decide +kernel
theorem dJ0_indexOf_7cf53_27 : decode cJ0_indexOf_7cf53 27 = .ok (.iload_n 1, 1) := by decide +kernel
theorem dJ0_indexOf_7cf53_28 : decode cJ0_indexOf_7cf53 28 = .ok (.iload_n 2, 1) := by decide +kernel
theorem dJ0_indexOf_7cf53_29 : decode cJ0_indexOf_7cf53 29 = .ok (.aload_n 0, 1) := by decide +kernel
theorem dJ0_indexOf_7cf53_30 : decode cJ0_indexOf_7cf53 30 = .ok (.invokevirtual 505, 3) := by decide +kernel
theorem dJ0_indexOf_7cf53_33 : decode cJ0_indexOf_7cf53 33 = .ok (.invokestatic 640, 3) := by decide +kernel
theorem dJ0_indexOf_7cf53_36 : decode cJ0_indexOf_7cf53 36 = .ok (.ireturn, 1) := by decide +kernel
theorem dJ0_indexOf_0f7a4_0 : decode cJ0_indexOf_0f7a4 0 = .ok (.aload_n 0, 1) := by decide +kernel
theorem dJ0_indexOf_0f7a4_1 : decode cJ0_indexOf_0f7a4 1 = .ok (.iload_n 1, 1) := by decide +kernel
theorem dJ0_indexOf_0f7a4_2 : decode cJ0_indexOf_0f7a4 2 = .ok (.iconst 0, 1) := by decide +kernel
theorem dJ0_indexOf_0f7a4_3 : decode cJ0_indexOf_0f7a4 3 = .ok (.invokevirtual 633, 3) := by decide +kernel
theorem dJ0_indexOf_0f7a4_6 : decode cJ0_indexOf_0f7a4 6 = .ok (.ireturn, 1) := by decide +kernel
set_option maxRecDepth 100000 in
theorem cj_coder (l : Launch) (K V N : Nat) (f : Nat → Int32) (d : Nat) (hd : 0 ≤ d) : Met l yJ0_coder_7d493 (Cond.code yJ0_coder_7d493 cJ0_coder_7d493 1 (some .byte) :: qm_T) (qm_rm d 0 0) (qj_P K V N f [.ref K]) (qj_Q (some (.int 0))) 0 0 (fun _ => False) := by
  refine Met.ofW (cc := cJ0_coder_7d493) (maxL := 1) (ret := (some .byte)) (by decide +kernel) rfl ?_
  intro p e s m args below meth c s₁ B hml hv
  obtain ⟨rfl, hX⟩ := hv
  have hx := B.exec
  have hb := B.bytes
  have hr := B.returns
  have hlocks := B.notSynchronized
  have hts0 := atoms_spec (ws := Cond.code yJ0_coder_7d493 cJ0_coder_7d493 1 (some .byte) :: qm_T) B.pre
  have hts : ∀ w ∈ qm_T, w.before _ s = true := fun w hw => hts0 w (List.mem_cons_of_mem _ hw)
  have hown : s.vm.findClass RJ0 = some m.cls := findClass_of_methodNamed B.named
  have hS : va_S (fun _ => False) s.heap s.heap [] := va_S.rf
  obtain ⟨hO, hCo, hVa, hTx, hCS, hSI⟩ := id hX
  have hl := lv_entry ([.ref K]) (n := 1) (Nat.le_of_ble_eq_true rfl)
  rw [lg_entry_eq]
  generalize (lg_sl ([.ref K]) ++ List.replicate (1 - (lg_sl ([.ref K])).length) Slot.unset).toArray = ls at hl ⊢
  have hl : lv_has ls 1 [(0, .ref K)] := hl
  refine va_gets hx hb hCS hS hown (hts _ (qw_T (qw_at 288 (by decide +kernel)) rfl)) (fun x z => z) dJ0_coder_7d493_0 ?_
  refine lv_if_eq (tgt := 13) hx hb dJ0_coder_7d493_3 (by decide) (fun z => absurd z (by decide)) (fun _ => ?_)
  refine lv_aload_n hx hb dJ0_coder_7d493_6 rfl (lv_at hl 0 rfl) ?_
  refine vk_getf hx hb hCo hS hown (hts _ (qw_T (qw_at 1943 (by decide +kernel)) rfl)) (fun x z => z) dJ0_coder_7d493_7 ?_
  refine lv_goto (tgt := 14) hx hb dJ0_coder_7d493_10 (by decide) ?_
  exact W.zret hx hb hr rfl (fun t ht _ => ⟨rfl, ht⟩) (fun q h => by cases h) dJ0_coder_7d493_14
set_option maxRecDepth 100000 in
theorem cj_isLatin1 (l : Launch) (K V N : Nat) (f : Nat → Int32) (d : Nat) (hd : 0 ≤ d) : Met l yJ0_isLatin1_aae02 (Cond.code yJ0_isLatin1_aae02 cJ0_isLatin1_aae02 1 (some .boolean) :: qm_T) (qm_rm d 0 0) (qj_P K V N f [.ref K]) (qj_Q (some (.int 1))) 0 0 (fun _ => False) := by
  refine Met.ofW (cc := cJ0_isLatin1_aae02) (maxL := 1) (ret := (some .boolean)) (by decide +kernel) rfl ?_
  intro p e s m args below meth c s₁ B hml hv
  obtain ⟨rfl, hX⟩ := hv
  have hx := B.exec
  have hb := B.bytes
  have hr := B.returns
  have hlocks := B.notSynchronized
  have hts0 := atoms_spec (ws := Cond.code yJ0_isLatin1_aae02 cJ0_isLatin1_aae02 1 (some .boolean) :: qm_T) B.pre
  have hts : ∀ w ∈ qm_T, w.before _ s = true := fun w hw => hts0 w (List.mem_cons_of_mem _ hw)
  have hown : s.vm.findClass RJ0 = some m.cls := findClass_of_methodNamed B.named
  have hS : va_S (fun _ => False) s.heap s.heap [] := va_S.rf
  obtain ⟨hO, hCo, hVa, hTx, hCS, hSI⟩ := id hX
  have hl := lv_entry ([.ref K]) (n := 1) (Nat.le_of_ble_eq_true rfl)
  rw [lg_entry_eq]
  generalize (lg_sl ([.ref K]) ++ List.replicate (1 - (lg_sl ([.ref K])).length) Slot.unset).toArray = ls at hl ⊢
  have hl : lv_has ls 1 [(0, .ref K)] := hl
  refine va_gets hx hb hCS hS hown (hts _ (qw_T (qw_at 288 (by decide +kernel)) rfl)) (fun x z => z) dJ0_isLatin1_aae02_0 ?_
  refine lv_if_eq (tgt := 17) hx hb dJ0_isLatin1_aae02_3 (by decide) (fun z => absurd z (by decide)) (fun _ => ?_)
  refine lv_aload_n hx hb dJ0_isLatin1_aae02_6 rfl (lv_at hl 0 rfl) ?_
  refine vk_getf hx hb hCo hS hown (hts _ (qw_T (qw_at 1943 (by decide +kernel)) rfl)) (fun x z => z) dJ0_isLatin1_aae02_7 ?_
  refine lv_if_ne (tgt := 17) hx hb dJ0_isLatin1_aae02_10 (by decide) (fun z => absurd z (by decide)) (fun _ => ?_)
  refine lv_iconst (v := 1) hx hb dJ0_isLatin1_aae02_13 (by decide) ?_
  refine lv_goto (tgt := 18) hx hb dJ0_isLatin1_aae02_14 (by decide) ?_
  exact W.zret hx hb hr rfl (fun t ht _ => ⟨rfl, ht⟩) (fun q h => by cases h) dJ0_isLatin1_aae02_18
theorem qj_sh0 (x : Int32) : x >>> ((0 : Int32) &&& 31) = x := by
  have h : ((0 : Int32) &&& 31) = 0 := by decide
  rw [h]
  simp
set_option maxRecDepth 100000 in
theorem cj_length (l : Launch) (K V N : Nat) (f : Nat → Int32) (hN : N < 2 ^ 31) (d : Nat) (hd : 1 ≤ d) : Met l yJ0_length_8abf5 (Cond.code yJ0_length_8abf5 cJ0_length_8abf5 1 (some .int) :: qm_T) (qm_rm d 0 0) (qj_P K V N f [.ref K]) (qj_Q (some (.int (Int32.ofNat N)))) 0 0 (fun _ => False) := by
  refine Met.ofW (cc := cJ0_length_8abf5) (maxL := 1) (ret := (some .int)) (by decide +kernel) rfl ?_
  intro p e s m args below meth c s₁ B hml hv
  obtain ⟨rfl, hX⟩ := hv
  have hx := B.exec
  have hb := B.bytes
  have hr := B.returns
  have hlocks := B.notSynchronized
  have hts0 := atoms_spec (ws := Cond.code yJ0_length_8abf5 cJ0_length_8abf5 1 (some .int) :: qm_T) B.pre
  have hts : ∀ w ∈ qm_T, w.before _ s = true := fun w hw => hts0 w (List.mem_cons_of_mem _ hw)
  have hown : s.vm.findClass RJ0 = some m.cls := findClass_of_methodNamed B.named
  have hS : va_S (fun _ => False) s.heap s.heap [] := va_S.rf
  obtain ⟨hO, hCo, hVa, hTx, hCS, hSI⟩ := id hX
  have hl := lv_entry ([.ref K]) (n := 1) (Nat.le_of_ble_eq_true rfl)
  rw [lg_entry_eq]
  generalize (lg_sl ([.ref K]) ++ List.replicate (1 - (lg_sl ([.ref K])).length) Slot.unset).toArray = ls at hl ⊢
  have hl : lv_has ls 1 [(0, .ref K)] := hl
  refine lv_aload_n hx hb dJ0_length_8abf5_0 rfl (lv_at hl 0 rfl) ?_
  refine vk_getf hx hb hVa hS hown (hts _ (qw_T (qw_at 1942 (by decide +kernel)) rfl)) (fun x z => z) dJ0_length_8abf5_1 ?_
  refine va_tlen hx hb hTx hS rfl dJ0_length_8abf5_4 ?_
  refine lv_aload_n hx hb dJ0_length_8abf5_5 rfl (lv_at hl 0 rfl) ?_
  refine qj_cV (y := yJ0_coder_7d493) (v := some (.int 0)) (n := 0) (As := []) (rest := [.int (Int32.ofNat N)]) (d := d - 1) hx hb hml hown hts (cj_coder l K V N f (d - 1) (by omega)) (qw_at 287 (by decide +kernel)) (qw_at 143 (by decide +kernel)) (qw_at 284 (by decide +kernel)) (qw_at 285 (by decide +kernel)) (qw_at 286 (by decide +kernel)) ⟨by decide +kernel, by decide +kernel, by decide +kernel⟩ (by decide) rfl ⟨qj_blind _ _ _ _ _, ⟨hO.choose, hO.choose_spec.1, hO.choose_spec.2.1, hO.choose_spec.2.2.1⟩, qj_pre hX hS _⟩ hl.1 (Nat.le_of_ble_eq_true rfl) (by show _ ≤ d + 1; omega) (by show _ ≤ 40 * d + 40; omega) (Nat.zero_le _) (Nat.zero_le _) dJ0_length_8abf5_6 ?_
  show W p l e _ s m _ below meth c s.heap [] 0 0 _ (F0 m 9 ls [.int 0, .int (Int32.ofNat N)])
  refine lv_ishr hx hb dJ0_length_8abf5_9 ?_
  exact W.iret hx hb hr (fun t ht _ => ⟨by rw [qj_sh0], ht⟩) (fun q h => by cases h) dJ0_length_8abf5_10
theorem qj_nn {k : Nat} (hk : k < 2 ^ 31) : (Int32.ofNat k).toNatClampNeg = k := Int32.toNatClampNeg_ofNat_of_lt hk
theorem qj_in {k N : Nat} (hN : N < 2 ^ 31) (h : k < N) : vp_in (Int32.ofNat k) N := by
  unfold vp_in
  rw [qj_nn (by omega)]
  rintro (h1 | h1)
  · have : ¬ Int32.ofNat k < Int32.ofNat 0 := by
      rw [Int32.ofNat_lt_iff_lt (by omega) (by omega)]; omega
    exact this h1
  · omega
theorem qj_inc (k : Nat) : Int32.ofNat k + Int32.ofInt 1 = Int32.ofNat (k + 1) := by
  rw [Int32.ofNat_add]; rfl
theorem qj_of {i : Int32} {N : Nat} (h : vp_in i N) : ∃ k, k < N ∧ i = Int32.ofNat k := by
  have h1 : ¬ i < 0 := fun z => h (Or.inl z)
  have h2 : i.toNatClampNeg < N := Nat.lt_of_not_le (fun z => h (Or.inr z))
  refine ⟨_, h2, ?_⟩
  have h3 : (0:Int) ≤ i.toInt := by
    have := Int32.not_lt.mp h1
    rw [Int32.le_iff_toInt_le] at this
    simpa using this
  apply Int32.toInt_inj.mp
  have h4 : i.toNatClampNeg < 2 ^ 31 := by
    have := i.toInt_lt
    unfold Int32.toNatClampNeg; omega
  rw [Int32.toInt_ofNat_of_lt h4]
  unfold Int32.toNatClampNeg; omega
theorem qj_ix_lt {k N : Nat} (hN : N < 2 ^ 31) (h : k < N) : Int32.ofNat k < Int32.ofNat N := (Int32.ofNat_lt_iff_lt (by omega) hN).mpr h
theorem qj_ix_nle {k N : Nat} (hN : N < 2 ^ 31) (h : k < N) : ¬ Int32.ofNat N ≤ Int32.ofNat k := by
  rw [Int32.ofNat_le_iff_le hN (by omega)]; omega
set_option maxRecDepth 100000 in
theorem cj_ck0 (l : Launch) (K V N : Nat) (f : Nat → Int32) (k : Nat) (hN : N < 2 ^ 31) (hk : k < N) (d : Nat) (hd : 0 ≤ d) : Met l yJ3_checkIndex_8e157 (Cond.code yJ3_checkIndex_8e157 cJ3_checkIndex_8e157 3 (some .int) :: qm_T) (qm_rm d 0 0) (qj_P K V N f [.int (Int32.ofNat k), .int (Int32.ofNat N), .null]) (qj_Q (some (.int (Int32.ofNat k)))) 0 0 (fun _ => False) := by
  refine Met.ofW (cc := cJ3_checkIndex_8e157) (maxL := 3) (ret := (some .int)) (by decide +kernel) rfl ?_
  intro p e s m args below meth c s₁ B hml hv
  obtain ⟨rfl, hX⟩ := hv
  have hx := B.exec
  have hb := B.bytes
  have hr := B.returns
  have hlocks := B.notSynchronized
  have hts0 := atoms_spec (ws := Cond.code yJ3_checkIndex_8e157 cJ3_checkIndex_8e157 3 (some .int) :: qm_T) B.pre
  have hts : ∀ w ∈ qm_T, w.before _ s = true := fun w hw => hts0 w (List.mem_cons_of_mem _ hw)
  have hown : s.vm.findClass RJ3 = some m.cls := findClass_of_methodNamed B.named
  have hS : va_S (fun _ => False) s.heap s.heap [] := va_S.rf
  obtain ⟨hO, hCo, hVa, hTx, hCS, hSI⟩ := id hX
  have hl := lv_entry ([.int (Int32.ofNat k), .int (Int32.ofNat N), .null]) (n := 3) (Nat.le_of_ble_eq_true rfl)
  rw [lg_entry_eq]
  generalize (lg_sl ([.int (Int32.ofNat k), .int (Int32.ofNat N), .null]) ++ List.replicate (3 - (lg_sl ([.int (Int32.ofNat k), .int (Int32.ofNat N), .null])).length) Slot.unset).toArray = ls at hl ⊢
  have hl : lv_has ls 3 [(0, .int (Int32.ofNat k)), (1, .int (Int32.ofNat N)), (2, .null)] := hl
  refine lv_iload_n hx hb dJ3_checkIndex_8e157_0 rfl (lv_at hl 0 rfl) ?_
  refine lv_if_lt (tgt := 9) hx hb dJ3_checkIndex_8e157_1 (by decide) (fun z => absurd z (fun z => qj_in hN hk (Or.inl z))) (fun _ => ?_)
  refine lv_iload_n hx hb dJ3_checkIndex_8e157_4 rfl (lv_at hl 0 rfl) ?_
  refine lv_iload_n hx hb dJ3_checkIndex_8e157_5 rfl (lv_at hl 1 rfl) ?_
  refine lv_icmp_lt (tgt := 16) hx hb dJ3_checkIndex_8e157_6 (by decide) (fun _ => ?_) (fun z => absurd (qj_ix_lt hN hk) z)
  refine lv_iload_n hx hb dJ3_checkIndex_8e157_16 rfl (lv_at hl 0 rfl) ?_
  exact W.iret hx hb hr (fun t ht _ => ⟨rfl, ht⟩) (fun q h => by cases h) dJ3_checkIndex_8e157_17
set_option maxRecDepth 100000 in
theorem cj_ck1 (l : Launch) (K V N : Nat) (f : Nat → Int32) (k : Nat) (hN : N < 2 ^ 31) (hk : k < N) (t : Nat) (d : Nat) (hd : 0 ≤ d) : Met l yJ3_checkIndex_8e157 (Cond.code yJ3_checkIndex_8e157 cJ3_checkIndex_8e157 3 (some .int) :: qm_T) (qm_rm d 0 0) (qj_P K V N f [.int (Int32.ofNat k), .int (Int32.ofNat N), .ref t]) (qj_Q (some (.int (Int32.ofNat k)))) 0 0 (fun _ => False) := by
  refine Met.ofW (cc := cJ3_checkIndex_8e157) (maxL := 3) (ret := (some .int)) (by decide +kernel) rfl ?_
  intro p e s m args below meth c s₁ B hml hv
  obtain ⟨rfl, hX⟩ := hv
  have hx := B.exec
  have hb := B.bytes
  have hr := B.returns
  have hlocks := B.notSynchronized
  have hts0 := atoms_spec (ws := Cond.code yJ3_checkIndex_8e157 cJ3_checkIndex_8e157 3 (some .int) :: qm_T) B.pre
  have hts : ∀ w ∈ qm_T, w.before _ s = true := fun w hw => hts0 w (List.mem_cons_of_mem _ hw)
  have hown : s.vm.findClass RJ3 = some m.cls := findClass_of_methodNamed B.named
  have hS : va_S (fun _ => False) s.heap s.heap [] := va_S.rf
  obtain ⟨hO, hCo, hVa, hTx, hCS, hSI⟩ := id hX
  have hl := lv_entry ([.int (Int32.ofNat k), .int (Int32.ofNat N), .ref t]) (n := 3) (Nat.le_of_ble_eq_true rfl)
  rw [lg_entry_eq]
  generalize (lg_sl ([.int (Int32.ofNat k), .int (Int32.ofNat N), .ref t]) ++ List.replicate (3 - (lg_sl ([.int (Int32.ofNat k), .int (Int32.ofNat N), .ref t])).length) Slot.unset).toArray = ls at hl ⊢
  have hl : lv_has ls 3 [(0, .int (Int32.ofNat k)), (1, .int (Int32.ofNat N)), (2, .ref t)] := hl
  refine lv_iload_n hx hb dJ3_checkIndex_8e157_0 rfl (lv_at hl 0 rfl) ?_
  refine lv_if_lt (tgt := 9) hx hb dJ3_checkIndex_8e157_1 (by decide) (fun z => absurd z (fun z => qj_in hN hk (Or.inl z))) (fun _ => ?_)
  refine lv_iload_n hx hb dJ3_checkIndex_8e157_4 rfl (lv_at hl 0 rfl) ?_
  refine lv_iload_n hx hb dJ3_checkIndex_8e157_5 rfl (lv_at hl 1 rfl) ?_
  refine lv_icmp_lt (tgt := 16) hx hb dJ3_checkIndex_8e157_6 (by decide) (fun _ => ?_) (fun z => absurd (qj_ix_lt hN hk) z)
  refine lv_iload_n hx hb dJ3_checkIndex_8e157_16 rfl (lv_at hl 0 rfl) ?_
  exact W.iret hx hb hr (fun t ht _ => ⟨rfl, ht⟩) (fun q h => by cases h) dJ3_checkIndex_8e157_17
set_option maxRecDepth 100000 in
theorem cj_ckS (l : Launch) (K V N : Nat) (f : Nat → Int32) (k : Nat) (hN : N < 2 ^ 31) (hk : k < N) (d : Nat) (hd : 1 ≤ d) : Met l yJ0_checkIndex_df160 (Cond.code yJ0_checkIndex_df160 cJ0_checkIndex_df160 2 none :: qm_T) (qm_rm d 0 0) (qj_P K V N f [.int (Int32.ofNat k), .int (Int32.ofNat N)]) (qj_Q (none)) 0 0 (fun _ => False) := by
  refine Met.ofW (cc := cJ0_checkIndex_df160) (maxL := 2) (ret := none) (by decide +kernel) rfl ?_
  intro p e s m args below meth c s₁ B hml hv
  obtain ⟨rfl, hX⟩ := hv
  have hx := B.exec
  have hb := B.bytes
  have hr := B.returns
  have hlocks := B.notSynchronized
  have hts0 := atoms_spec (ws := Cond.code yJ0_checkIndex_df160 cJ0_checkIndex_df160 2 none :: qm_T) B.pre
  have hts : ∀ w ∈ qm_T, w.before _ s = true := fun w hw => hts0 w (List.mem_cons_of_mem _ hw)
  have hown : s.vm.findClass RJ0 = some m.cls := findClass_of_methodNamed B.named
  have hS : va_S (fun _ => False) s.heap s.heap [] := va_S.rf
  obtain ⟨hO, hCo, hVa, hTx, hCS, hSI⟩ := id hX
  have hl := lv_entry ([.int (Int32.ofNat k), .int (Int32.ofNat N)]) (n := 2) (Nat.le_of_ble_eq_true rfl)
  rw [lg_entry_eq]
  generalize (lg_sl ([.int (Int32.ofNat k), .int (Int32.ofNat N)]) ++ List.replicate (2 - (lg_sl ([.int (Int32.ofNat k), .int (Int32.ofNat N)])).length) Slot.unset).toArray = ls at hl ⊢
  have hl : lv_has ls 2 [(0, .int (Int32.ofNat k)), (1, .int (Int32.ofNat N))] := hl
  refine lv_iload_n hx hb dJ0_checkIndex_df160_0 rfl (lv_at hl 0 rfl) ?_
  refine lv_iload_n hx hb dJ0_checkIndex_df160_1 rfl (lv_at hl 1 rfl) ?_
  rcases hSI with hZ | ⟨t, hZ⟩
  · refine va_gets hx hb hZ hS hown (hts _ (qw_T (qw_at 308 (by decide +kernel)) rfl)) (fun x z => z) dJ0_checkIndex_df160_2 ?_
    refine qj_cS (y := yJ3_checkIndex_8e157) (v := some (.int (Int32.ofNat k))) (n := 3) (As := [.int (Int32.ofNat k), .int (Int32.ofNat N), .null]) (rest := []) (d := d - 1) hx hb hml hown hts (cj_ck0 l K V N f k hN hk (d - 1) (by omega)) (qw_at 312 (by decide +kernel)) (qw_at 145 (by decide +kernel)) (qw_at 310 (by decide +kernel)) (qw_at 311 (by decide +kernel)) ⟨by decide +kernel, by decide +kernel, by decide +kernel⟩ (by decide) rfl ⟨qj_blind _ _ _ _ _, qj_pre hX hS _⟩ hl.1 (Nat.le_of_ble_eq_true rfl) (by show _ ≤ d + 1; omega) (by show _ ≤ 40 * d + 40; omega) (Nat.zero_le _) (Nat.zero_le _) dJ0_checkIndex_df160_5 ?_
    show W p l e _ s m _ below meth c s.heap [] 0 0 _ (F0 m 8 ls [.int (Int32.ofNat k)])
    refine lv_pop hx hb dJ0_checkIndex_df160_8 rfl ?_
    exact W.vret hx hb hr (fun t ht _ => ⟨rfl, ht⟩) (fun q h => by cases h) dJ0_checkIndex_df160_9
  · refine va_gets hx hb hZ hS hown (hts _ (qw_T (qw_at 308 (by decide +kernel)) rfl)) (fun x z => z) dJ0_checkIndex_df160_2 ?_
    refine qj_cS (y := yJ3_checkIndex_8e157) (v := some (.int (Int32.ofNat k))) (n := 3) (As := [.int (Int32.ofNat k), .int (Int32.ofNat N), .ref t]) (rest := []) (d := d - 1) hx hb hml hown hts (cj_ck1 l K V N f k hN hk t (d - 1) (by omega)) (qw_at 312 (by decide +kernel)) (qw_at 145 (by decide +kernel)) (qw_at 310 (by decide +kernel)) (qw_at 311 (by decide +kernel)) ⟨by decide +kernel, by decide +kernel, by decide +kernel⟩ (by decide) rfl ⟨qj_blind _ _ _ _ _, qj_pre hX hS _⟩ hl.1 (Nat.le_of_ble_eq_true rfl) (by show _ ≤ d + 1; omega) (by show _ ≤ 40 * d + 40; omega) (Nat.zero_le _) (Nat.zero_le _) dJ0_checkIndex_df160_5 ?_
    show W p l e _ s m _ below meth c s.heap [] 0 0 _ (F0 m 8 ls [.int (Int32.ofNat k)])
    refine lv_pop hx hb dJ0_checkIndex_df160_8 rfl ?_
    exact W.vret hx hb hr (fun t ht _ => ⟨rfl, ht⟩) (fun q h => by cases h) dJ0_checkIndex_df160_9
set_option maxRecDepth 100000 in
theorem cj_charAtL (l : Launch) (K V N : Nat) (f : Nat → Int32) (k : Nat) (hN : N < 2 ^ 31) (hk : k < N) (ch : Int32) (hc : ((f k &&& 255).toUInt32 % 65536).toInt32 = ch) (hn : narrow .char (.int ch) = .int ch) (d : Nat) (hd : 2 ≤ d) : Met l yJ1_charAt_3b067 (Cond.code yJ1_charAt_3b067 cJ1_charAt_3b067 2 (some .char) :: qm_T) (qm_rm d 0 0) (qj_P K V N f [.ref V, .int (Int32.ofNat k)]) (qj_Q (some (.int ch))) 0 0 (fun _ => False) := by
  refine Met.ofW (cc := cJ1_charAt_3b067) (maxL := 2) (ret := (some .char)) (by decide +kernel) rfl ?_
  intro p e s m args below meth c s₁ B hml hv
  obtain ⟨rfl, hX⟩ := hv
  have hx := B.exec
  have hb := B.bytes
  have hr := B.returns
  have hlocks := B.notSynchronized
  have hts0 := atoms_spec (ws := Cond.code yJ1_charAt_3b067 cJ1_charAt_3b067 2 (some .char) :: qm_T) B.pre
  have hts : ∀ w ∈ qm_T, w.before _ s = true := fun w hw => hts0 w (List.mem_cons_of_mem _ hw)
  have hown : s.vm.findClass RJ1 = some m.cls := findClass_of_methodNamed B.named
  have hS : va_S (fun _ => False) s.heap s.heap [] := va_S.rf
  obtain ⟨hO, hCo, hVa, hTx, hCS, hSI⟩ := id hX
  have hl := lv_entry ([.ref V, .int (Int32.ofNat k)]) (n := 2) (Nat.le_of_ble_eq_true rfl)
  rw [lg_entry_eq]
  generalize (lg_sl ([.ref V, .int (Int32.ofNat k)]) ++ List.replicate (2 - (lg_sl ([.ref V, .int (Int32.ofNat k)])).length) Slot.unset).toArray = ls at hl ⊢
  have hl : lv_has ls 2 [(0, .ref V), (1, .int (Int32.ofNat k))] := hl
  refine lv_iload_n hx hb dJ1_charAt_3b067_0 rfl (lv_at hl 1 rfl) ?_
  refine lv_aload_n hx hb dJ1_charAt_3b067_1 rfl (lv_at hl 0 rfl) ?_
  refine va_tlen hx hb hTx hS rfl dJ1_charAt_3b067_2 ?_
  refine qj_cS (y := yJ0_checkIndex_df160) (v := none) (n := 2) (As := [.int (Int32.ofNat k), .int (Int32.ofNat N)]) (rest := []) (d := d - 1) hx hb hml hown hts (cj_ckS l K V N f k hN hk (d - 1) (by omega)) (qw_at 307 (by decide +kernel)) (qw_at 143 (by decide +kernel)) (qw_at 305 (by decide +kernel)) (qw_at 306 (by decide +kernel)) ⟨by decide +kernel, by decide +kernel, by decide +kernel⟩ (by decide) rfl ⟨qj_blind _ _ _ _ _, qj_pre hX hS _⟩ hl.1 (Nat.le_of_ble_eq_true rfl) (by show _ ≤ d + 1; omega) (by show _ ≤ 40 * d + 40; omega) (Nat.zero_le _) (Nat.zero_le _) dJ1_charAt_3b067_3 ?_
  show W p l e _ s m _ below meth c s.heap [] 0 0 _ (F0 m 6 ls [])
  refine lv_aload_n hx hb dJ1_charAt_3b067_6 rfl (lv_at hl 0 rfl) ?_
  refine lv_iload_n hx hb dJ1_charAt_3b067_7 rfl (lv_at hl 1 rfl) ?_
  refine va_tb (v := .int (f k)) hx hb hTx hS (qj_in hN hk) (by show Value.int (f _) = _; rw [qj_nn (by omega)]) dJ1_charAt_3b067_8 ?_
  refine lv_sipush (v := 255) hx hb dJ1_charAt_3b067_9 (by decide) ?_
  refine lv_iand hx hb dJ1_charAt_3b067_12 ?_
  refine lv_i2c (v := ch) hx hb dJ1_charAt_3b067_13 (hc) ?_
  exact W.zret hx hb hr hn (fun t ht _ => ⟨rfl, ht⟩) (fun q h => by cases h) dJ1_charAt_3b067_14
set_option maxRecDepth 100000 in
theorem cj_charAt (l : Launch) (K V N : Nat) (f : Nat → Int32) (k : Nat) (hN : N < 2 ^ 31) (hk : k < N) (ch : Int32) (hc : ((f k &&& 255).toUInt32 % 65536).toInt32 = ch) (hn : narrow .char (.int ch) = .int ch) (d : Nat) (hd : 3 ≤ d) : Met l yJ0_charAt_5068e (Cond.code yJ0_charAt_5068e cJ0_charAt_5068e 2 (some .char) :: qm_T) (qm_rm d 0 0) (qj_P K V N f [.ref K, .int (Int32.ofNat k)]) (qj_Q (some (.int ch))) 0 0 (fun _ => False) := by
  refine Met.ofW (cc := cJ0_charAt_5068e) (maxL := 2) (ret := (some .char)) (by decide +kernel) rfl ?_
  intro p e s m args below meth c s₁ B hml hv
  obtain ⟨rfl, hX⟩ := hv
  have hx := B.exec
  have hb := B.bytes
  have hr := B.returns
  have hlocks := B.notSynchronized
  have hts0 := atoms_spec (ws := Cond.code yJ0_charAt_5068e cJ0_charAt_5068e 2 (some .char) :: qm_T) B.pre
  have hts : ∀ w ∈ qm_T, w.before _ s = true := fun w hw => hts0 w (List.mem_cons_of_mem _ hw)
  have hown : s.vm.findClass RJ0 = some m.cls := findClass_of_methodNamed B.named
  have hS : va_S (fun _ => False) s.heap s.heap [] := va_S.rf
  obtain ⟨hO, hCo, hVa, hTx, hCS, hSI⟩ := id hX
  have hl := lv_entry ([.ref K, .int (Int32.ofNat k)]) (n := 2) (Nat.le_of_ble_eq_true rfl)
  rw [lg_entry_eq]
  generalize (lg_sl ([.ref K, .int (Int32.ofNat k)]) ++ List.replicate (2 - (lg_sl ([.ref K, .int (Int32.ofNat k)])).length) Slot.unset).toArray = ls at hl ⊢
  have hl : lv_has ls 2 [(0, .ref K), (1, .int (Int32.ofNat k))] := hl
  refine lv_aload_n hx hb dJ0_charAt_5068e_0 rfl (lv_at hl 0 rfl) ?_
  refine qj_cV (y := yJ0_isLatin1_aae02) (v := some (.int 1)) (n := 0) (As := []) (rest := []) (d := d - 1) hx hb hml hown hts (cj_isLatin1 l K V N f (d - 1) (by omega)) (qw_at 301 (by decide +kernel)) (qw_at 143 (by decide +kernel)) (qw_at 298 (by decide +kernel)) (qw_at 299 (by decide +kernel)) (qw_at 300 (by decide +kernel)) ⟨by decide +kernel, by decide +kernel, by decide +kernel⟩ (by decide) rfl ⟨qj_blind _ _ _ _ _, ⟨hO.choose, hO.choose_spec.1, hO.choose_spec.2.1, hO.choose_spec.2.2.1⟩, qj_pre hX hS _⟩ hl.1 (Nat.le_of_ble_eq_true rfl) (by show _ ≤ d + 1; omega) (by show _ ≤ 40 * d + 40; omega) (Nat.zero_le _) (Nat.zero_le _) dJ0_charAt_5068e_1 ?_
  show W p l e _ s m _ below meth c s.heap [] 0 0 _ (F0 m 4 ls [.int 1])
  refine lv_if_eq (tgt := 16) hx hb dJ0_charAt_5068e_4 (by decide) (fun z => absurd z (by decide)) (fun _ => ?_)
  refine lv_aload_n hx hb dJ0_charAt_5068e_7 rfl (lv_at hl 0 rfl) ?_
  refine vk_getf hx hb hVa hS hown (hts _ (qw_T (qw_at 1942 (by decide +kernel)) rfl)) (fun x z => z) dJ0_charAt_5068e_8 ?_
  refine lv_iload_n hx hb dJ0_charAt_5068e_11 rfl (lv_at hl 1 rfl) ?_
  refine qj_cS (y := yJ1_charAt_3b067) (v := some (.int ch)) (n := 2) (As := [.ref V, .int (Int32.ofNat k)]) (rest := []) (d := d - 1) hx hb hml hown hts (cj_charAtL l K V N f k hN hk ch hc hn (d - 1) (by omega)) (qw_at 304 (by decide +kernel)) (qw_at 144 (by decide +kernel)) (qw_at 302 (by decide +kernel)) (qw_at 303 (by decide +kernel)) ⟨by decide +kernel, by decide +kernel, by decide +kernel⟩ (by decide) rfl ⟨qj_blind _ _ _ _ _, qj_pre hX hS _⟩ hl.1 (Nat.le_of_ble_eq_true rfl) (by show _ ≤ d + 1; omega) (by show _ ≤ 40 * d + 40; omega) (Nat.zero_le _) (Nat.zero_le _) dJ0_charAt_5068e_12 ?_
  show W p l e _ s m _ below meth c s.heap [] 0 0 _ (F0 m 15 ls [.int ch])
  exact W.zret hx hb hr hn (fun t ht _ => ⟨rfl, ht⟩) (fun q h => by cases h) dJ0_charAt_5068e_15
set_option maxRecDepth 100000 in
theorem cj_can1 (l : Launch) (K V N : Nat) (f : Nat → Int32) (ch : Int32) (h1 : ¬ ch < 0) (h2 : ¬ 255 < ch) (d : Nat) (hd : 0 ≤ d) : Met l yJ1_canEncode_9a6ad (Cond.code yJ1_canEncode_9a6ad cJ1_canEncode_9a6ad 1 (some .boolean) :: qm_T) (qm_rm d 0 0) (qj_P K V N f [.int ch]) (qj_Q (some (.int 1))) 0 0 (fun _ => False) := by
  refine Met.ofW (cc := cJ1_canEncode_9a6ad) (maxL := 1) (ret := (some .boolean)) (by decide +kernel) rfl ?_
  intro p e s m args below meth c s₁ B hml hv
  obtain ⟨rfl, hX⟩ := hv
  have hx := B.exec
  have hb := B.bytes
  have hr := B.returns
  have hlocks := B.notSynchronized
  have hts0 := atoms_spec (ws := Cond.code yJ1_canEncode_9a6ad cJ1_canEncode_9a6ad 1 (some .boolean) :: qm_T) B.pre
  have hts : ∀ w ∈ qm_T, w.before _ s = true := fun w hw => hts0 w (List.mem_cons_of_mem _ hw)
  have hown : s.vm.findClass RJ1 = some m.cls := findClass_of_methodNamed B.named
  have hS : va_S (fun _ => False) s.heap s.heap [] := va_S.rf
  obtain ⟨hO, hCo, hVa, hTx, hCS, hSI⟩ := id hX
  have hl := lv_entry ([.int ch]) (n := 1) (Nat.le_of_ble_eq_true rfl)
  rw [lg_entry_eq]
  generalize (lg_sl ([.int ch]) ++ List.replicate (1 - (lg_sl ([.int ch])).length) Slot.unset).toArray = ls at hl ⊢
  have hl : lv_has ls 1 [(0, .int ch)] := hl
  refine lv_iload_n hx hb dJ1_canEncode_9a6ad_0 rfl (lv_at hl 0 rfl) ?_
  refine lv_if_lt (tgt := 15) hx hb dJ1_canEncode_9a6ad_1 (by decide) (fun z => absurd z h1) (fun _ => ?_)
  refine lv_iload_n hx hb dJ1_canEncode_9a6ad_4 rfl (lv_at hl 0 rfl) ?_
  refine lv_sipush (v := 255) hx hb dJ1_canEncode_9a6ad_5 (by decide) ?_
  refine lv_icmp_gt (tgt := 15) hx hb dJ1_canEncode_9a6ad_8 (by decide) (fun z => absurd z h2) (fun _ => ?_)
  refine lv_iconst (v := 1) hx hb dJ1_canEncode_9a6ad_11 (by decide) ?_
  refine lv_goto (tgt := 16) hx hb dJ1_canEncode_9a6ad_12 (by decide) ?_
  exact W.zret hx hb hr rfl (fun t ht _ => ⟨rfl, ht⟩) (fun q h => by cases h) dJ1_canEncode_9a6ad_16
set_option maxRecDepth 100000 in
theorem cj_can0a (l : Launch) (K V N : Nat) (f : Nat → Int32) (ch : Int32) (h1 : ch < 0) (d : Nat) (hd : 0 ≤ d) : Met l yJ1_canEncode_9a6ad (Cond.code yJ1_canEncode_9a6ad cJ1_canEncode_9a6ad 1 (some .boolean) :: qm_T) (qm_rm d 0 0) (qj_P K V N f [.int ch]) (qj_Q (some (.int 0))) 0 0 (fun _ => False) := by
  refine Met.ofW (cc := cJ1_canEncode_9a6ad) (maxL := 1) (ret := (some .boolean)) (by decide +kernel) rfl ?_
  intro p e s m args below meth c s₁ B hml hv
  obtain ⟨rfl, hX⟩ := hv
  have hx := B.exec
  have hb := B.bytes
  have hr := B.returns
  have hlocks := B.notSynchronized
  have hts0 := atoms_spec (ws := Cond.code yJ1_canEncode_9a6ad cJ1_canEncode_9a6ad 1 (some .boolean) :: qm_T) B.pre
  have hts : ∀ w ∈ qm_T, w.before _ s = true := fun w hw => hts0 w (List.mem_cons_of_mem _ hw)
  have hown : s.vm.findClass RJ1 = some m.cls := findClass_of_methodNamed B.named
  have hS : va_S (fun _ => False) s.heap s.heap [] := va_S.rf
  obtain ⟨hO, hCo, hVa, hTx, hCS, hSI⟩ := id hX
  have hl := lv_entry ([.int ch]) (n := 1) (Nat.le_of_ble_eq_true rfl)
  rw [lg_entry_eq]
  generalize (lg_sl ([.int ch]) ++ List.replicate (1 - (lg_sl ([.int ch])).length) Slot.unset).toArray = ls at hl ⊢
  have hl : lv_has ls 1 [(0, .int ch)] := hl
  refine lv_iload_n hx hb dJ1_canEncode_9a6ad_0 rfl (lv_at hl 0 rfl) ?_
  refine lv_if_lt (tgt := 15) hx hb dJ1_canEncode_9a6ad_1 (by decide) (fun _ => ?_) (fun z => absurd h1 z)
  refine lv_iconst (v := 0) hx hb dJ1_canEncode_9a6ad_15 (by decide) ?_
  exact W.zret hx hb hr rfl (fun t ht _ => ⟨rfl, ht⟩) (fun q h => by cases h) dJ1_canEncode_9a6ad_16
set_option maxRecDepth 100000 in
theorem cj_can0b (l : Launch) (K V N : Nat) (f : Nat → Int32) (ch : Int32) (h1 : ¬ ch < 0) (h2 : 255 < ch) (d : Nat) (hd : 0 ≤ d) : Met l yJ1_canEncode_9a6ad (Cond.code yJ1_canEncode_9a6ad cJ1_canEncode_9a6ad 1 (some .boolean) :: qm_T) (qm_rm d 0 0) (qj_P K V N f [.int ch]) (qj_Q (some (.int 0))) 0 0 (fun _ => False) := by
  refine Met.ofW (cc := cJ1_canEncode_9a6ad) (maxL := 1) (ret := (some .boolean)) (by decide +kernel) rfl ?_
  intro p e s m args below meth c s₁ B hml hv
  obtain ⟨rfl, hX⟩ := hv
  have hx := B.exec
  have hb := B.bytes
  have hr := B.returns
  have hlocks := B.notSynchronized
  have hts0 := atoms_spec (ws := Cond.code yJ1_canEncode_9a6ad cJ1_canEncode_9a6ad 1 (some .boolean) :: qm_T) B.pre
  have hts : ∀ w ∈ qm_T, w.before _ s = true := fun w hw => hts0 w (List.mem_cons_of_mem _ hw)
  have hown : s.vm.findClass RJ1 = some m.cls := findClass_of_methodNamed B.named
  have hS : va_S (fun _ => False) s.heap s.heap [] := va_S.rf
  obtain ⟨hO, hCo, hVa, hTx, hCS, hSI⟩ := id hX
  have hl := lv_entry ([.int ch]) (n := 1) (Nat.le_of_ble_eq_true rfl)
  rw [lg_entry_eq]
  generalize (lg_sl ([.int ch]) ++ List.replicate (1 - (lg_sl ([.int ch])).length) Slot.unset).toArray = ls at hl ⊢
  have hl : lv_has ls 1 [(0, .int ch)] := hl
  refine lv_iload_n hx hb dJ1_canEncode_9a6ad_0 rfl (lv_at hl 0 rfl) ?_
  refine lv_if_lt (tgt := 15) hx hb dJ1_canEncode_9a6ad_1 (by decide) (fun z => absurd z h1) (fun _ => ?_)
  refine lv_iload_n hx hb dJ1_canEncode_9a6ad_4 rfl (lv_at hl 0 rfl) ?_
  refine lv_sipush (v := 255) hx hb dJ1_canEncode_9a6ad_5 (by decide) ?_
  refine lv_icmp_gt (tgt := 15) hx hb dJ1_canEncode_9a6ad_8 (by decide) (fun _ => ?_) (fun z => absurd h2 z)
  refine lv_iconst (v := 0) hx hb dJ1_canEncode_9a6ad_15 (by decide) ?_
  exact W.zret hx hb hr rfl (fun t ht _ => ⟨rfl, ht⟩) (fun q h => by cases h) dJ1_canEncode_9a6ad_16
def qj_ix (f : Nat → Int32) (b : Int32) : Nat → Nat → Int32
  | 0, _ => -1
  | n + 1, k => if f k = b then Int32.ofNat k else qj_ix f b n (k + 1)
set_option maxRecDepth 100000 in
theorem cj_ixc (l : Launch) (K V N : Nat) (f : Nat → Int32) (ch : Int32) (hN : N < 2 ^ 31) (d : Nat) (hd : 0 ≤ d) : Met l yJ1_indexOfChar_4cfef (Cond.code yJ1_indexOfChar_4cfef cJ1_indexOfChar_4cfef 6 (some .int) :: qm_T) (qm_rm d 0 0) (qj_P K V N f [.ref V, .int ch, .int 0, .int (Int32.ofNat N)]) (qj_Q (some (.int (qj_ix f (qm_by ch) N 0)))) 0 0 (fun _ => False) := by
  refine Met.ofW (cc := cJ1_indexOfChar_4cfef) (maxL := 6) (ret := (some .int)) (by decide +kernel) rfl ?_
  intro p e s m args below meth c s₁ B hml hv
  obtain ⟨rfl, hX⟩ := hv
  have hx := B.exec
  have hb := B.bytes
  have hr := B.returns
  have hlocks := B.notSynchronized
  have hts0 := atoms_spec (ws := Cond.code yJ1_indexOfChar_4cfef cJ1_indexOfChar_4cfef 6 (some .int) :: qm_T) B.pre
  have hts : ∀ w ∈ qm_T, w.before _ s = true := fun w hw => hts0 w (List.mem_cons_of_mem _ hw)
  have hown : s.vm.findClass RJ1 = some m.cls := findClass_of_methodNamed B.named
  have hS : va_S (fun _ => False) s.heap s.heap [] := va_S.rf
  obtain ⟨hO, hCo, hVa, hTx, hCS, hSI⟩ := id hX
  have hl := lv_entry ([.ref V, .int ch, .int 0, .int (Int32.ofNat N)]) (n := 6) (Nat.le_of_ble_eq_true rfl)
  rw [lg_entry_eq]
  generalize (lg_sl ([.ref V, .int ch, .int 0, .int (Int32.ofNat N)]) ++ List.replicate (6 - (lg_sl ([.ref V, .int ch, .int 0, .int (Int32.ofNat N)])).length) Slot.unset).toArray = ls at hl ⊢
  have hl : lv_has ls 6 [(0, .ref V), (1, .int ch), (2, .int 0), (3, .int (Int32.ofNat N))] := hl
  refine lv_iload_n hx hb dJ1_indexOfChar_4cfef_0 rfl (lv_at hl 1 rfl) ?_
  refine lv_i2b (v := qm_by ch) hx hb dJ1_indexOfChar_4cfef_1 rfl ?_
  refine lv_istore (lv' := [(4, .int (qm_by ch)), (0, .ref V), (1, .int ch), (2, .int 0), (3, .int (Int32.ofNat N))]) hx hb dJ1_indexOfChar_4cfef_2 hl (by decide) rfl (fun ls hl => ?_)
  refine lv_iload_n hx hb dJ1_indexOfChar_4cfef_4 rfl (lv_at hl 3 rfl) ?_
  refine lv_istore (lv' := [(5, .int 0), (4, .int (qm_by ch)), (0, .ref V), (1, .int ch), (2, .int 0), (3, .int (Int32.ofNat N))]) hx hb dJ1_indexOfChar_4cfef_5 hl (by decide) rfl (fun ls hl => ?_)
  rw [show (0 : Int32) = Int32.ofNat 0 from rfl] at hl
  suffices loop : ∀ (n k : Nat) (ls : Array Slot), k + n = N → qj_ix f (qm_by ch) n k = qj_ix f (qm_by ch) N 0 → lv_has ls 6 [(5, .int (Int32.ofNat k)), (4, .int (qm_by ch)), (0, .ref V), (1, .int ch), (2, .int (Int32.ofNat 0)), (3, .int (Int32.ofNat N))] → W p l e _ s m _ below meth c s.heap [] 0 0 _ (F0 m 7 ls []) from loop N 0 ls (Nat.zero_add _) rfl hl
  clear hl ls
  intro n
  induction n with
  | zero =>
    intro k ls hk hi hl
    refine lv_iload hx hb dJ1_indexOfChar_4cfef_7 (lv_at hl 0 rfl) ?_
    refine lv_iload_n hx hb dJ1_indexOfChar_4cfef_9 rfl (lv_at hl 5 rfl) ?_
    refine lv_icmp_ge (tgt := 31) hx hb dJ1_indexOfChar_4cfef_10 (by decide) (fun _ => ?_) (fun z => absurd (by rw [show k = N from hk]; exact Int32.le_refl _) z)
    refine lv_iconst (v := (-1)) hx hb dJ1_indexOfChar_4cfef_31 (by decide) ?_
    exact W.iret hx hb hr (fun t ht _ => ⟨by rw [← hi]; rfl, ht⟩) (fun q h => by cases h) dJ1_indexOfChar_4cfef_32
  | succ n ih =>
    intro k ls hk hi hl
    refine lv_iload hx hb dJ1_indexOfChar_4cfef_7 (lv_at hl 0 rfl) ?_
    refine lv_iload_n hx hb dJ1_indexOfChar_4cfef_9 rfl (lv_at hl 5 rfl) ?_
    refine lv_icmp_ge (tgt := 31) hx hb dJ1_indexOfChar_4cfef_10 (by decide) (fun z => absurd z (fun z => qj_ix_nle hN (by omega) z)) (fun _ => ?_)
    refine lv_aload_n hx hb dJ1_indexOfChar_4cfef_13 rfl (lv_at hl 2 rfl) ?_
    refine lv_iload hx hb dJ1_indexOfChar_4cfef_14 (lv_at hl 0 rfl) ?_
    refine va_tb (v := .int (f k)) hx hb hTx hS (qj_in hN (by omega)) (by show Value.int (f _) = _; rw [qj_nn (by omega)]) dJ1_indexOfChar_4cfef_16 ?_
    refine lv_iload hx hb dJ1_indexOfChar_4cfef_17 (lv_at hl 1 rfl) ?_
    refine lv_icmp_ne (tgt := 25) hx hb dJ1_indexOfChar_4cfef_19 (by decide) (fun z => ?_) (fun z => ?_)
    · refine lv_iinc (k := 0) (lv' := [(5, .int (Int32.ofNat (k + 1))), (4, .int (qm_by ch)), (0, .ref V), (1, .int ch), (2, .int 0), (3, .int (Int32.ofNat N))]) hx hb dJ1_indexOfChar_4cfef_25 hl rfl (qj_inc k) (by decide) rfl (fun ls hl => ?_)
      refine lv_goto (tgt := 7) hx hb dJ1_indexOfChar_4cfef_28 (by decide) ?_
      exact ih (k + 1) ls (by omega) (by rw [← hi]; exact (if_neg z).symm) hl
    · refine lv_iload hx hb dJ1_indexOfChar_4cfef_22 (lv_at hl 0 rfl) ?_
      exact W.iret hx hb hr (fun t ht _ => ⟨by rw [← hi]; exact congrArg (fun x => Outcome.returned (some (Value.int x))) (if_pos z).symm, ht⟩) (fun q h => by cases h) dJ1_indexOfChar_4cfef_24
def qj_ixR (f : Nat → Int32) (N : Nat) (ch : Int32) : Int32 := if ch < 0 then -1 else if 255 < ch then -1 else qj_ix f (qm_by ch) N 0
set_option maxRecDepth 100000 in
theorem cj_ixL (l : Launch) (K V N : Nat) (f : Nat → Int32) (ch : Int32) (hN : N < 2 ^ 31) (h0 : 0 < N) (d : Nat) (hd : 1 ≤ d) : Met l yJ1_indexOf_4cfef (Cond.code yJ1_indexOf_4cfef cJ1_indexOf_4cfef 4 (some .int) :: qm_T) (qm_rm d 0 0) (qj_P K V N f [.ref V, .int ch, .int 0, .int (Int32.ofNat N)]) (qj_Q (some (.int (qj_ixR f N ch)))) 0 0 (fun _ => False) := by
  refine Met.ofW (cc := cJ1_indexOf_4cfef) (maxL := 4) (ret := (some .int)) (by decide +kernel) rfl ?_
  intro p e s m args below meth c s₁ B hml hv
  obtain ⟨rfl, hX⟩ := hv
  have hx := B.exec
  have hb := B.bytes
  have hr := B.returns
  have hlocks := B.notSynchronized
  have hts0 := atoms_spec (ws := Cond.code yJ1_indexOf_4cfef cJ1_indexOf_4cfef 4 (some .int) :: qm_T) B.pre
  have hts : ∀ w ∈ qm_T, w.before _ s = true := fun w hw => hts0 w (List.mem_cons_of_mem _ hw)
  have hown : s.vm.findClass RJ1 = some m.cls := findClass_of_methodNamed B.named
  have hS : va_S (fun _ => False) s.heap s.heap [] := va_S.rf
  obtain ⟨hO, hCo, hVa, hTx, hCS, hSI⟩ := id hX
  have hl := lv_entry ([.ref V, .int ch, .int 0, .int (Int32.ofNat N)]) (n := 4) (Nat.le_of_ble_eq_true rfl)
  rw [lg_entry_eq]
  generalize (lg_sl ([.ref V, .int ch, .int 0, .int (Int32.ofNat N)]) ++ List.replicate (4 - (lg_sl ([.ref V, .int ch, .int 0, .int (Int32.ofNat N)])).length) Slot.unset).toArray = ls at hl ⊢
  have hl : lv_has ls 4 [(0, .ref V), (1, .int ch), (2, .int 0), (3, .int (Int32.ofNat N))] := hl
  by_cases h1 : ch < 0
  · refine lv_iload_n hx hb dJ1_indexOf_4cfef_0 rfl (lv_at hl 1 rfl) ?_
    refine qj_cS (y := yJ1_canEncode_9a6ad) (v := some (.int 0)) (n := 1) (As := [.int ch]) (rest := []) (d := d - 1) hx hb hml hown hts (cj_can0a l K V N f ch h1 (d - 1) (by omega)) (qw_at 347 (by decide +kernel)) (qw_at 144 (by decide +kernel)) (qw_at 345 (by decide +kernel)) (qw_at 346 (by decide +kernel)) ⟨by decide +kernel, by decide +kernel, by decide +kernel⟩ (by decide) rfl ⟨qj_blind _ _ _ _ _, qj_pre hX hS _⟩ hl.1 (Nat.le_of_ble_eq_true rfl) (by show _ ≤ d + 1; omega) (by show _ ≤ 40 * d + 40; omega) (Nat.zero_le _) (Nat.zero_le _) dJ1_indexOf_4cfef_1 ?_
    show W p l e _ s m _ below meth c s.heap [] 0 0 _ (F0 m 4 ls [.int 0])
    refine lv_if_ne (tgt := 9) hx hb dJ1_indexOf_4cfef_4 (by decide) (fun z => absurd z (by decide)) (fun _ => ?_)
    refine lv_iconst (v := (-1)) hx hb dJ1_indexOf_4cfef_7 (by decide) ?_
    exact W.iret hx hb hr (fun t ht _ => ⟨by unfold qj_ixR; rw [if_pos h1], ht⟩) (fun q h => by cases h) dJ1_indexOf_4cfef_8
  by_cases h2 : 255 < ch
  · refine lv_iload_n hx hb dJ1_indexOf_4cfef_0 rfl (lv_at hl 1 rfl) ?_
    refine qj_cS (y := yJ1_canEncode_9a6ad) (v := some (.int 0)) (n := 1) (As := [.int ch]) (rest := []) (d := d - 1) hx hb hml hown hts (cj_can0b l K V N f ch h1 h2 (d - 1) (by omega)) (qw_at 347 (by decide +kernel)) (qw_at 144 (by decide +kernel)) (qw_at 345 (by decide +kernel)) (qw_at 346 (by decide +kernel)) ⟨by decide +kernel, by decide +kernel, by decide +kernel⟩ (by decide) rfl ⟨qj_blind _ _ _ _ _, qj_pre hX hS _⟩ hl.1 (Nat.le_of_ble_eq_true rfl) (by show _ ≤ d + 1; omega) (by show _ ≤ 40 * d + 40; omega) (Nat.zero_le _) (Nat.zero_le _) dJ1_indexOf_4cfef_1 ?_
    show W p l e _ s m _ below meth c s.heap [] 0 0 _ (F0 m 4 ls [.int 0])
    refine lv_if_ne (tgt := 9) hx hb dJ1_indexOf_4cfef_4 (by decide) (fun z => absurd z (by decide)) (fun _ => ?_)
    refine lv_iconst (v := (-1)) hx hb dJ1_indexOf_4cfef_7 (by decide) ?_
    exact W.iret hx hb hr (fun t ht _ => ⟨by unfold qj_ixR; rw [if_neg h1, if_pos h2], ht⟩) (fun q h => by cases h) dJ1_indexOf_4cfef_8
  refine lv_iload_n hx hb dJ1_indexOf_4cfef_0 rfl (lv_at hl 1 rfl) ?_
  refine qj_cS (y := yJ1_canEncode_9a6ad) (v := some (.int 1)) (n := 1) (As := [.int ch]) (rest := []) (d := d - 1) hx hb hml hown hts (cj_can1 l K V N f ch h1 h2 (d - 1) (by omega)) (qw_at 347 (by decide +kernel)) (qw_at 144 (by decide +kernel)) (qw_at 345 (by decide +kernel)) (qw_at 346 (by decide +kernel)) ⟨by decide +kernel, by decide +kernel, by decide +kernel⟩ (by decide) rfl ⟨qj_blind _ _ _ _ _, qj_pre hX hS _⟩ hl.1 (Nat.le_of_ble_eq_true rfl) (by show _ ≤ d + 1; omega) (by show _ ≤ 40 * d + 40; omega) (Nat.zero_le _) (Nat.zero_le _) dJ1_indexOf_4cfef_1 ?_
  show W p l e _ s m _ below meth c s.heap [] 0 0 _ (F0 m 4 ls [.int 1])
  refine lv_if_ne (tgt := 9) hx hb dJ1_indexOf_4cfef_4 (by decide) (fun _ => ?_) (fun z => absurd z (by decide))
  refine lv_iload_n hx hb dJ1_indexOf_4cfef_9 rfl (lv_at hl 2 rfl) ?_
  refine lv_iconst (v := 0) hx hb dJ1_indexOf_4cfef_10 (by decide) ?_
  refine va_mmax (rest := []) hx hb (hml.trans hl.1.symm) hown (hts _ (qw_T (qw_at 348 (by decide +kernel)) rfl)) (hts _ (qw_T (qw_at 218 (by decide +kernel)) rfl)) (hts _ (qw_T (qw_at 140 (by decide +kernel)) rfl)) (hts _ (qw_T (qw_at 219 (by decide +kernel)) rfl)) (by show _ ≤ d + 1; omega) (Nat.le_trans (Nat.le_of_ble_eq_true rfl : _ ≤ 40) (by show _ ≤ 40 * d + 40; omega)) (Nat.zero_le _) (Nat.zero_le _) dJ1_indexOf_4cfef_11 ?_
  rw [show (if (0 : Int32) < (0 : Int32) then (0 : Int32) else (0 : Int32)) = (0 : Int32) from by decide]
  refine lv_istore_n (lv' := [(2, .int (0 : Int32)), (0, .ref V), (1, .int ch), (3, .int (Int32.ofNat N))]) hx hb dJ1_indexOf_4cfef_14 rfl hl (by decide) rfl (fun ls hl => ?_)
  refine lv_iload_n hx hb dJ1_indexOf_4cfef_15 rfl (lv_at hl 3 rfl) ?_
  refine lv_aload_n hx hb dJ1_indexOf_4cfef_16 rfl (lv_at hl 1 rfl) ?_
  refine va_tlen hx hb hTx hS rfl dJ1_indexOf_4cfef_17 ?_
  refine va_mmin (rest := []) hx hb (hml.trans hl.1.symm) hown (hts _ (qw_T (qw_at 349 (by decide +kernel)) rfl)) (hts _ (qw_T (qw_at 215 (by decide +kernel)) rfl)) (hts _ (qw_T (qw_at 140 (by decide +kernel)) rfl)) (hts _ (qw_T (qw_at 216 (by decide +kernel)) rfl)) (by show _ ≤ d + 1; omega) (Nat.le_trans (Nat.le_of_ble_eq_true rfl : _ ≤ 40) (by show _ ≤ 40 * d + 40; omega)) (Nat.zero_le _) (Nat.zero_le _) dJ1_indexOf_4cfef_18 ?_
  rw [show (if ((Int32.ofNat N) : Int32) < ((Int32.ofNat N) : Int32) then ((Int32.ofNat N) : Int32) else ((Int32.ofNat N) : Int32)) = Int32.ofNat N from ite_self _]
  refine lv_istore_n (lv' := [(3, .int (Int32.ofNat N)), (2, .int (0 : Int32)), (0, .ref V), (1, .int ch)]) hx hb dJ1_indexOf_4cfef_21 rfl hl (by decide) rfl (fun ls hl => ?_)
  refine lv_iload_n hx hb dJ1_indexOf_4cfef_22 rfl (lv_at hl 1 rfl) ?_
  refine lv_iload_n hx hb dJ1_indexOf_4cfef_23 rfl (lv_at hl 0 rfl) ?_
  refine lv_icmp_lt (tgt := 29) hx hb dJ1_indexOf_4cfef_24 (by decide) (fun _ => ?_) (fun z => absurd (qj_ix_lt (k := 0) hN h0) z)
  refine lv_aload_n hx hb dJ1_indexOf_4cfef_29 rfl (lv_at hl 2 rfl) ?_
  refine lv_iload_n hx hb dJ1_indexOf_4cfef_30 rfl (lv_at hl 3 rfl) ?_
  refine lv_iload_n hx hb dJ1_indexOf_4cfef_31 rfl (lv_at hl 1 rfl) ?_
  refine lv_iload_n hx hb dJ1_indexOf_4cfef_32 rfl (lv_at hl 0 rfl) ?_
  refine qj_cS (y := yJ1_indexOfChar_4cfef) (v := some (.int (qj_ix f (qm_by ch) N 0))) (n := 4) (As := [.ref V, .int ch, .int (0 : Int32), .int (Int32.ofNat N)]) (rest := []) (d := d - 1) hx hb hml hown hts (cj_ixc l K V N f ch hN (d - 1) (by omega)) (qw_at 352 (by decide +kernel)) (qw_at 144 (by decide +kernel)) (qw_at 350 (by decide +kernel)) (qw_at 351 (by decide +kernel)) ⟨by decide +kernel, by decide +kernel, by decide +kernel⟩ (by decide) rfl ⟨qj_blind _ _ _ _ _, qj_pre hX hS _⟩ hl.1 (Nat.le_of_ble_eq_true rfl) (by show _ ≤ d + 1; omega) (by show _ ≤ 40 * d + 40; omega) (Nat.zero_le _) (Nat.zero_le _) dJ1_indexOf_4cfef_33 ?_
  show W p l e _ s m _ below meth c s.heap [] 0 0 _ (F0 m 36 ls [.int (qj_ix f (qm_by ch) N 0)])
  exact W.iret hx hb hr (fun t ht _ => ⟨by unfold qj_ixR; rw [if_neg h1, if_neg h2], ht⟩) (fun q h => by cases h) dJ1_indexOf_4cfef_36
set_option maxRecDepth 100000 in
theorem cj_ix2 (l : Launch) (K V N : Nat) (f : Nat → Int32) (ch : Int32) (hN : N < 2 ^ 31) (h0 : 0 < N) (d : Nat) (hd : 2 ≤ d) : Met l yJ0_indexOf_7cf53 (Cond.code yJ0_indexOf_7cf53 cJ0_indexOf_7cf53 3 (some .int) :: qm_T) (qm_rm d 0 0) (qj_P K V N f [.ref K, .int ch, .int 0]) (qj_Q (some (.int (qj_ixR f N ch)))) 0 0 (fun _ => False) := by
  refine Met.ofW (cc := cJ0_indexOf_7cf53) (maxL := 3) (ret := (some .int)) (by decide +kernel) rfl ?_
  intro p e s m args below meth c s₁ B hml hv
  obtain ⟨rfl, hX⟩ := hv
  have hx := B.exec
  have hb := B.bytes
  have hr := B.returns
  have hlocks := B.notSynchronized
  have hts0 := atoms_spec (ws := Cond.code yJ0_indexOf_7cf53 cJ0_indexOf_7cf53 3 (some .int) :: qm_T) B.pre
  have hts : ∀ w ∈ qm_T, w.before _ s = true := fun w hw => hts0 w (List.mem_cons_of_mem _ hw)
  have hown : s.vm.findClass RJ0 = some m.cls := findClass_of_methodNamed B.named
  have hS : va_S (fun _ => False) s.heap s.heap [] := va_S.rf
  obtain ⟨hO, hCo, hVa, hTx, hCS, hSI⟩ := id hX
  have hl := lv_entry ([.ref K, .int ch, .int 0]) (n := 3) (Nat.le_of_ble_eq_true rfl)
  rw [lg_entry_eq]
  generalize (lg_sl ([.ref K, .int ch, .int 0]) ++ List.replicate (3 - (lg_sl ([.ref K, .int ch, .int 0])).length) Slot.unset).toArray = ls at hl ⊢
  have hl : lv_has ls 3 [(0, .ref K), (1, .int ch), (2, .int 0)] := hl
  refine lv_aload_n hx hb dJ0_indexOf_7cf53_0 rfl (lv_at hl 0 rfl) ?_
  refine qj_cV (y := yJ0_isLatin1_aae02) (v := some (.int 1)) (n := 0) (As := []) (rest := []) (d := d - 1) hx hb hml hown hts (cj_isLatin1 l K V N f (d - 1) (by omega)) (qw_at 301 (by decide +kernel)) (qw_at 143 (by decide +kernel)) (qw_at 298 (by decide +kernel)) (qw_at 299 (by decide +kernel)) (qw_at 300 (by decide +kernel)) ⟨by decide +kernel, by decide +kernel, by decide +kernel⟩ (by decide) rfl ⟨qj_blind _ _ _ _ _, ⟨hO.choose, hO.choose_spec.1, hO.choose_spec.2.1, hO.choose_spec.2.2.1⟩, qj_pre hX hS _⟩ hl.1 (Nat.le_of_ble_eq_true rfl) (by show _ ≤ d + 1; omega) (by show _ ≤ 40 * d + 40; omega) (Nat.zero_le _) (Nat.zero_le _) dJ0_indexOf_7cf53_1 ?_
  show W p l e _ s m _ below meth c s.heap [] 0 0 _ (F0 m 4 ls [.int 1])
  refine lv_if_eq (tgt := 23) hx hb dJ0_indexOf_7cf53_4 (by decide) (fun z => absurd z (by decide)) (fun _ => ?_)
  refine lv_aload_n hx hb dJ0_indexOf_7cf53_7 rfl (lv_at hl 0 rfl) ?_
  refine vk_getf hx hb hVa hS hown (hts _ (qw_T (qw_at 1942 (by decide +kernel)) rfl)) (fun x z => z) dJ0_indexOf_7cf53_8 ?_
  refine lv_iload_n hx hb dJ0_indexOf_7cf53_11 rfl (lv_at hl 1 rfl) ?_
  refine lv_iload_n hx hb dJ0_indexOf_7cf53_12 rfl (lv_at hl 2 rfl) ?_
  refine lv_aload_n hx hb dJ0_indexOf_7cf53_13 rfl (lv_at hl 0 rfl) ?_
  refine qj_cV (y := yJ0_length_8abf5) (v := some (.int (Int32.ofNat N))) (n := 0) (As := []) (rest := [.int 0, .int ch, .ref V]) (d := d - 1) hx hb hml hown hts (cj_length l K V N f hN (d - 1) (by omega)) (qw_at 283 (by decide +kernel)) (qw_at 143 (by decide +kernel)) (qw_at 341 (by decide +kernel)) (qw_at 281 (by decide +kernel)) (qw_at 282 (by decide +kernel)) ⟨by decide +kernel, by decide +kernel, by decide +kernel⟩ (by decide) rfl ⟨qj_blind _ _ _ _ _, ⟨hO.choose, hO.choose_spec.1, hO.choose_spec.2.1, hO.choose_spec.2.2.1⟩, qj_pre hX hS _⟩ hl.1 (Nat.le_of_ble_eq_true rfl) (by show _ ≤ d + 1; omega) (by show _ ≤ 40 * d + 40; omega) (Nat.zero_le _) (Nat.zero_le _) dJ0_indexOf_7cf53_14 ?_
  show W p l e _ s m _ below meth c s.heap [] 0 0 _ (F0 m 17 ls [.int (Int32.ofNat N), .int 0, .int ch, .ref V])
  refine qj_cS (y := yJ1_indexOf_4cfef) (v := some (.int (qj_ixR f N ch))) (n := 4) (As := [.ref V, .int ch, .int 0, .int (Int32.ofNat N)]) (rest := []) (d := d - 1) hx hb hml hown hts (cj_ixL l K V N f ch hN h0 (d - 1) (by omega)) (qw_at 344 (by decide +kernel)) (qw_at 144 (by decide +kernel)) (qw_at 342 (by decide +kernel)) (qw_at 343 (by decide +kernel)) ⟨by decide +kernel, by decide +kernel, by decide +kernel⟩ (by decide) rfl ⟨qj_blind _ _ _ _ _, qj_pre hX hS _⟩ hl.1 (Nat.le_of_ble_eq_true rfl) (by show _ ≤ d + 1; omega) (by show _ ≤ 40 * d + 40; omega) (Nat.zero_le _) (Nat.zero_le _) dJ0_indexOf_7cf53_17 ?_
  show W p l e _ s m _ below meth c s.heap [] 0 0 _ (F0 m 20 ls [.int (qj_ixR f N ch)])
  refine lv_goto (tgt := 36) hx hb dJ0_indexOf_7cf53_20 (by decide) ?_
  exact W.iret hx hb hr (fun t ht _ => ⟨rfl, ht⟩) (fun q h => by cases h) dJ0_indexOf_7cf53_36
set_option maxRecDepth 100000 in
theorem cj_ix1 (l : Launch) (K V N : Nat) (f : Nat → Int32) (ch : Int32) (hN : N < 2 ^ 31) (h0 : 0 < N) (d : Nat) (hd : 3 ≤ d) : Met l yJ0_indexOf_0f7a4 (Cond.code yJ0_indexOf_0f7a4 cJ0_indexOf_0f7a4 2 (some .int) :: qm_T) (qm_rm d 0 0) (qj_P K V N f [.ref K, .int ch]) (qj_Q (some (.int (qj_ixR f N ch)))) 0 0 (fun _ => False) := by
  refine Met.ofW (cc := cJ0_indexOf_0f7a4) (maxL := 2) (ret := (some .int)) (by decide +kernel) rfl ?_
  intro p e s m args below meth c s₁ B hml hv
  obtain ⟨rfl, hX⟩ := hv
  have hx := B.exec
  have hb := B.bytes
  have hr := B.returns
  have hlocks := B.notSynchronized
  have hts0 := atoms_spec (ws := Cond.code yJ0_indexOf_0f7a4 cJ0_indexOf_0f7a4 2 (some .int) :: qm_T) B.pre
  have hts : ∀ w ∈ qm_T, w.before _ s = true := fun w hw => hts0 w (List.mem_cons_of_mem _ hw)
  have hown : s.vm.findClass RJ0 = some m.cls := findClass_of_methodNamed B.named
  have hS : va_S (fun _ => False) s.heap s.heap [] := va_S.rf
  obtain ⟨hO, hCo, hVa, hTx, hCS, hSI⟩ := id hX
  have hl := lv_entry ([.ref K, .int ch]) (n := 2) (Nat.le_of_ble_eq_true rfl)
  rw [lg_entry_eq]
  generalize (lg_sl ([.ref K, .int ch]) ++ List.replicate (2 - (lg_sl ([.ref K, .int ch])).length) Slot.unset).toArray = ls at hl ⊢
  have hl : lv_has ls 2 [(0, .ref K), (1, .int ch)] := hl
  refine lv_aload_n hx hb dJ0_indexOf_0f7a4_0 rfl (lv_at hl 0 rfl) ?_
  refine lv_iload_n hx hb dJ0_indexOf_0f7a4_1 rfl (lv_at hl 1 rfl) ?_
  refine lv_iconst (v := 0) hx hb dJ0_indexOf_0f7a4_2 (by decide) ?_
  refine qj_cV (y := yJ0_indexOf_7cf53) (v := some (.int (qj_ixR f N ch))) (n := 2) (As := [.int ch, .int 0]) (rest := []) (d := d - 1) hx hb hml hown hts (cj_ix2 l K V N f ch hN h0 (d - 1) (by omega)) (qw_at 340 (by decide +kernel)) (qw_at 143 (by decide +kernel)) (qw_at 337 (by decide +kernel)) (qw_at 338 (by decide +kernel)) (qw_at 339 (by decide +kernel)) ⟨by decide +kernel, by decide +kernel, by decide +kernel⟩ (by decide) rfl ⟨qj_blind _ _ _ _ _, ⟨hO.choose, hO.choose_spec.1, hO.choose_spec.2.1, hO.choose_spec.2.2.1⟩, qj_pre hX hS _⟩ hl.1 (Nat.le_of_ble_eq_true rfl) (by show _ ≤ d + 1; omega) (by show _ ≤ 40 * d + 40; omega) (Nat.zero_le _) (Nat.zero_le _) dJ0_indexOf_0f7a4_3 ?_
  show W p l e _ s m _ below meth c s.heap [] 0 0 _ (F0 m 6 ls [.int (qj_ixR f N ch)])
  exact W.iret hx hb hr (fun t ht _ => ⟨rfl, ht⟩) (fun q h => by cases h) dJ0_indexOf_0f7a4_6
