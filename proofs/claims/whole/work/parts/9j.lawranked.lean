/-! THE LAW'S OWN ranked: it catches -/
theorem dQ_0 : decode cL_ranked 0 = .ok (.aload_n 2, 1) := by decide +kernel
theorem dQ_1 : decode cL_ranked 1 = .ok (.iconst 0, 1) := by decide +kernel
theorem dQ_2 : decode cL_ranked 2 = .ok (.aload_n 0, 1) := by decide +kernel
theorem dQ_3 : decode cL_ranked 3 = .ok (.iload_n 1, 1) := by decide +kernel
theorem dQ_4 : decode cL_ranked 4 = .ok (.invokevirtual 7, 3) := by decide +kernel
theorem dQ_7 : decode cL_ranked 7 = .ok (.i2l, 1) := by decide +kernel
theorem dQ_8 : decode cL_ranked 8 = .ok (.lastore, 1) := by decide +kernel
theorem dQ_9 : decode cL_ranked 9 = .ok (.goto 6, 3) := by decide +kernel
theorem dQ_12 : decode cL_ranked 12 = .ok (.astore_n 3, 1) := by decide +kernel
theorem dQ_13 : decode cL_ranked 13 = .ok (.iconst 1, 1) := by decide +kernel
theorem dQ_14 : decode cL_ranked 14 = .ok (.ireturn, 1) := by decide +kernel
theorem dQ_15 : decode cL_ranked 15 = .ok (.iconst 0, 1) := by decide +kernel
theorem dQ_16 : decode cL_ranked 16 = .ok (.ireturn, 1) := by decide +kernel
section RKL
variable {p : Program} {l : Launch} {e : Env} {R : Room} {s : State} {m : MethodId} {args : Array Value} {below : List Frame} {meth : Method} {c : Code} {H : Heap} {locs : List Loc} {cells slots : Nat} {Q : State → Prop}
variable {D : va_G} {G : ClassId × ClassId × ClassId} {ad : Nat → Nat} {Af A : Nat → Prop} {cc : ByteArray} {pc : Nat} {ls : Array Slot} {rest st0 : List Value}
/-- behind a call of SketchFiller.ranked -/
theorem rk_cont {vo : Option Int32} {h : qm_H} {mc ms : Nat} {a : Array Value} {H0 : Heap} (hr : vx_Run p l e R s m args below meth c H locs cells slots mc ms (F0 m pc ls st0) rest (rk_Qc D G ad Af vo h a) (rk_XC D G ad Af vo h) Af) (hS : va_S A H0 H locs) (hA : ∀ q, Af q → A q)
    (kx : ∀ (q9 : Addr) (ce : Cell) (H1 : Heap) (locs1 : List Loc), vo = none → H.size ≤ H1.size → (∀ q : Nat, q < H.size → ¬ Af q → H1[q]? = H[q]?) → va_P D vwCl (qm_W G ad h) H1 → va_S A H0 H1 locs1 → H1[q9]? = some ce → ce.vm = .none → s.vm.findClass rk_E = some ce.cls → vx_W p l e R s m args below meth c H1 locs1 (cells + mc) (slots + ms) Q (F0 m pc ls rest) q9)
    (kk : ∀ (v : Int32) (H1 : Heap) (locs1 : List Loc), vo = some v → H.size ≤ H1.size → (∀ q : Nat, q < H.size → ¬ Af q → H1[q]? = H[q]?) → va_P D vwCl (qm_W G ad h) H1 → va_S A H0 H1 locs1 → W p l e R s m args below meth c H1 locs1 (cells + mc) (slots + ms) Q (F0 m (pc + 3) ls (.int v :: rest))) : W p l e R s m args below meth c H locs cells slots Q (F0 m pc ls st0) := by
  intro T hT X
  rcases hr T hT X with ⟨v, st₀, t, T', L, h0, X', hL, e1, e2, ⟨v', hvo, hv, hPw, hF⟩, st⟩ | ⟨q, st₀, t, T', L, E, ce, h0, X', hL, e1, e2, ⟨hE, hvo, hPw, hF⟩, hce, hcv, hcl, st⟩
  · have hv' := Outcome.returned.inj hv
    subst hv'
    obtain ⟨k1, k2, k3⟩ := vx_keep h0 e1 hS (fun q _ z => hA q z) hA hL hF
    obtain ⟨t2, a1, b1⟩ := kk v' T'.heap (locs ++ L) hvo k1 k2 (by rw [e1]; exact hPw) k3 T' rfl X'
    exact ⟨t2, st t2 a1, b1⟩
  · subst hE
    obtain ⟨k1, k2, k3⟩ := vx_keep h0 e1 hS (fun q _ z => hA q z) hA hL hF
    obtain ⟨t2, a1, b1⟩ := kx q ce T'.heap (locs ++ L) hvo k1 k2 (by rw [e1]; exact hPw) k3 (by rw [e1]; exact hce) hcv hcl T' rfl X'
    exact ⟨t2, st.trans a1, b1⟩
/-- a long into a row of one -/
theorem rk_last {a : Nat} {cA : ClassId} {f : Nat → Int64} {x : Int64} {H0 : Heap} (hexec : p.tables.exec = Jvm.exec) (hb : c.code = cc) (hAr : ArrOfT s cA .long) (hc : H[a]? = some (vp_cell cA (1, .inr (.inl f)))) (hS : va_S A H0 H locs) (ha : A a) (hdg : decode cc pc = .ok (.lastore, 1))
    (kk : ∀ (H1 : Heap) (locs1 : List Loc), H1.size = H.size → H1[a]? = some (vp_cell cA (1, .inr (.inl (fun _ => x)))) → (∀ q : Nat, q ≠ a → H1[q]? = H[q]?) → va_S A H0 H1 locs1 → W p l e R s m args below meth c H1 locs1 cells slots Q (F0 m (pc + 1) ls rest)) : W p l e R s m args below meth c H locs cells slots Q (F0 m pc ls (.long x :: .int 0 :: .ref a :: rest)) := by
  refine W.last hexec hb hc (hAr 1 (fun j => .long (f j))) (fun q => by cases q) (by show ¬ ((0 : Int32) < 0 ∨ (arrV _ _ _).slots.size ≤ _); rw [arrV_size]; show ¬ ((0 : Int32) < 0 ∨ 1 ≤ (0 : Int32).toNatClampNeg); decide) rfl rfl hdg fun H1 e z oq => ?_
  refine kk H1 _ z ?_ oq (hS.put z oq ha)
  have key : ∀ g1 g2 : Nat → Value, g1 0 = g2 0 → arrV cA 1 g1 = arrV cA 1 g2 := by
    intro g1 g2 h
    unfold arrV
    have h2 : (fun j : Fin 1 => g1 j.val) = fun j : Fin 1 => g2 j.val := by
      funext j
      have h0 : j.val = 0 := by have := j.isLt; omega
      rw [h0]
      exact h
    rw [h2]
  rw [e, vp_cell_l, vp_cell_l, arrV_store]
  exact congrArg some (key _ _ (if_pos (by decide)))
end RKL
def rl_k (vo : Option Int32) : Int32 := match vo with
  | some _ => 0
  | none => 1
def rl_Pc (D : va_G) (G : ClassId × ClassId × ClassId) (ad : Nat → Nat) (Af : Nat → Prop) (sa : Nat) (x : Int32) (h : qm_H) (o : Nat) (cA : ClassId) (f : Nat → Int64) : Array Value → State → Prop := fun av U =>
  av = ([.ref (ad 0), .int x, .ref o] : List Value).toArray ∧ rk_Pc D G ad Af sa x h ([.ref (ad 0), .int x] : List Value).toArray U ∧ U.heap[o]? = some (vp_cell cA (1, .inr (.inl f))) ∧ ¬ Af o ∧ ArrOfT U cA .long
def rl_Qc (D : va_G) (G : ClassId × ClassId × ClassId) (ad : Nat → Nat) (Af : Nat → Prop) (vo : Option Int32) (h : qm_H) (o : Nat) (cA : ClassId) : Array Value → State → Outcome → State → Prop := fun _ st oc t =>
  ∃ f1 : Nat → Int64, oc = .returned (some (.int (rl_k vo))) ∧ (∀ v, vo = some v → f1 0 = v.toInt64) ∧ t.heap[o]? = some (vp_cell cA (1, .inr (.inl f1))) ∧ va_P D vwCl (qm_W G ad h) t.heap ∧ va_F (fun q => Af q ∨ q = o) st t
theorem rl_blind (D : va_G) (G : ClassId × ClassId × ClassId) (ad : Nat → Nat) (Af : Nat → Prop) (sa : Nat) (x : Int32) (h : qm_H) (o : Nat) (cA : ClassId) (f : Nat → Int64) : FrameBlind (rl_Pc D G ad Af sa x h o cA f) := by
  intro a U g mk q
  obtain ⟨q1, ⟨⟨u1, u2, u3, u4, u5, u6, u7, u8⟩, z1, z2, z3⟩, q3, q4, q5⟩ := q
  exact ⟨q1, ⟨⟨u1, u2, u3, va_K.moved (u := U) (U := U.calling g mk a) (Vm.Alike.refl U.vm) u4, u5, u6, (qL_XP ad Af).2.2 U g mk a u7, qm_nw.same (u := U) (U := U.calling g mk a) rfl u8⟩, vk_R.same (u := U) (U := U.calling g mk a) rfl z1, vx_Zq.moved (u := U) (U := U.calling g mk a) (Vm.Alike.refl U.vm) z2, vx_Zq.moved (u := U) (U := U.calling g mk a) (Vm.Alike.refl U.vm) z3⟩, q3, q4, arrOfT_moved (u := U) (E := U.calling g mk a) (Vm.Alike.refl U.vm) q5⟩
theorem rl_good : GoodIn qm_T (wsV RL 7 RX8 yX8_ranked (Cond.code yX8_ranked cX8_ranked 2 (some .int) :: qm_T)) := by
  intro w hw
  unfold wsV at hw
  rcases List.mem_append.mp hw with hw | hw
  · simp only [List.mem_cons, List.not_mem_nil, or_false] at hw
    rcases hw with rfl | rfl | rfl | rfl
    · exact ⟨qw_T (qw_at 1222 (by decide +kernel)) rfl, good_of_word rfl⟩
    · exact ⟨qw_T (qw_at 1223 (by decide +kernel)) rfl, good_of_word rfl⟩
    · exact ⟨qw_T (qw_at 1224 (by decide +kernel)) rfl, good_of_word rfl⟩
    · exact ⟨qw_T (qw_at 136 (by decide +kernel)) rfl, good_of_word rfl⟩
  · rcases List.mem_cons.mp hw with rfl | hw
    · exact ⟨qw_T (qw_at 1225 (by decide +kernel)) rfl, good_of_word rfl⟩
    · exact ⟨hw, good_of_word (qw_g hw)⟩
set_option maxRecDepth 100000 in
theorem rl_met {l : Launch} {D : va_G} {G : ClassId × ClassId × ClassId} {ad : Nat → Nat} {Af : Nat → Prop} {sa : Nat} {x : Int32} {h : qm_H} {vo : Option Int32} {o : Nat} {cA : ClassId} {f : Nat → Int64} (hl : l.stackTraces = false) (hc : rk_case h x vo) (hk0 : h.1[0]? = some (0, 8)) :
    vx_Met l yL_ranked (Cond.codeWith yL_ranked cL_ranked 4 (some .int) [(0, 9, 12, 13)] :: qm_T) (qm_rm 12 1 6) (rl_Pc D G ad Af sa x h o cA f) (rl_Qc D G ad Af vo h o cA) (fun _ _ _ => False) 1 6 (fun q => Af q ∨ q = o) := by
  refine vx_ofWH (cc := cL_ranked) (maxL := 4) (ret := some .int) (hh := [(0, 9, 12, 13)]) (by decide +kernel) rfl ?_
  intro p e s m args below meth c s₁ B hml hv
  obtain ⟨rfl, hPc, ho, hno, hAr⟩ := hv
  have hts0 := atoms_spec (ws := Cond.codeWith yL_ranked cL_ranked 4 (some .int) [(0, 9, 12, 13)] :: qm_T) B.pre
  have htab : c.exceptionTable.toList = [] ++ (⟨0, 9, 12, 13⟩ : ExceptionTableEntry) :: [] := vx_table (x := yL_ranked) B (hts0 _ List.mem_cons_self)
  have hts : ∀ w ∈ qm_T, w.before ([.ref (ad 0), .int x, .ref o] : List Value).toArray s = true := fun w hw => hts0 w (List.mem_cons_of_mem _ hw)
  have hown : s.vm.findClass RL = some m.cls := findClass_of_methodNamed B.named
  have hx := B.exec
  have hb := B.bytes
  obtain ⟨⟨-, hP, hD, hK, hz, hA, hXp, hnw⟩, hZ⟩ := id hPc
  have hl0 := lv_entry ([.ref (ad 0), .int x, .ref o]) (n := 4) (Nat.le_of_ble_eq_true rfl)
  rw [lg_entry_eq]
  generalize (lg_sl ([.ref (ad 0), .int x, .ref o]) ++ List.replicate (4 - (lg_sl ([.ref (ad 0), .int x, .ref o])).length) Slot.unset).toArray = ls at hl0 ⊢
  have hl0 : lv_has ls 4 [(0, .ref (ad 0)), (1, .int x), (2, .ref o)] := hl0
  have hol : o < s.heap.size := (Array.getElem?_eq_some_iff.mp ho).1
  refine lv_aload_n hx hb dQ_0 rfl (lv_at hl0 2 rfl) ?_
  refine lv_iconst (v := 0) hx hb dQ_1 (by decide) ?_
  refine lv_aload_n hx hb dQ_2 rfl (lv_at hl0 0 rfl) ?_
  refine lv_iload_n hx hb dQ_3 rfl (lv_at hl0 1 rfl) ?_
  refine rk_cont (A := fun q => Af q ∨ q = o) (H0 := s.heap) (vx_runV (C := RX8) (b := ad 0) (As := [.int x]) (rest := [.int 0, .ref o]) (mc := 1) (ms := 6) (n := 1) ⟨hx, hb, hml, hown, hts⟩ (rk_met (D := D) (G := G) (ad := ad) (Af := Af) (sa := sa) hl hc) (cwV 1 hts rl_good rfl rfl rfl ⟨rfl, by decide +kernel, by decide +kernel, by decide +kernel⟩ ⟨Nat.le_of_ble_eq_true rfl, Nat.le_of_ble_eq_true rfl⟩) ⟨rk_blind D G ad Af sa x h, va_recv hK hP (qm_vw (ci := 8) (by decide)) (qm_W_at hk0), fun U hU hW => ?_⟩ rfl rfl hl0.1 rfl (lv_room (Nat.le_of_ble_eq_true rfl)) dQ_4 ⟨Nat.le_of_ble_eq_true rfl, Nat.le_of_ble_eq_true rfl⟩) va_S.rf (fun q hq => Or.inl hq) (fun q9 ce H1 locs1 hvo e1 e2 e3 e4 e5 e6 e7 => ?_) (fun v H1 locs1 hvo e1 e2 e3 e4 => ?_)
  · exact ⟨⟨rfl, by rw [hU]; exact hP, hD, va_K.moved hW.alike hK, by rw [hU]; exact hz, by rw [hU]; exact hA, hXp.to hW (fun q _ _ => by rw [hU]), hnw.warm hW⟩, hZ.to hW (fun q hq => hq) (fun q _ _ => by rw [hU])⟩
  · refine vx_catch (name := rk_E) hown [] ⟨0, 9, 12, 13⟩ [] htab (fun z hz => nomatch hz) (by first | rfl | decide) (by decide) (hts _ (qw_T (qw_at 1221 (by decide +kernel)) rfl)) (va_Nw.use rfl (hnw (.castable rk_E rk_E) (qw_at 1228 (by decide +kernel)) rfl)) e5 e6 e7 ?_
    refine lv_astore_n (lv' := [(3, .ref q9), (0, .ref (ad 0)), (1, .int x), (2, .ref o)]) hx hb dQ_12 rfl hl0 (by decide) rfl (fun ls hl1 => ?_)
    refine lv_iconst (v := 1) hx hb dQ_13 (by decide) ?_
    refine W.widen (k := 1) (n := 6) (by omega) (by omega) ?_
    refine vx_ret ?_
    refine W.iret hx hb B.returns (fun t ht _ => ⟨f, ?_, ?_, ?_, ?_, ?_⟩) (fun q hq => e4.2.2 q hq) dQ_14 B.notSynchronized
    · rw [hvo]; rfl
    · intro v hv; rw [hvo] at hv; cases hv
    · rw [ht, e2 o hol hno]; exact ho
    · rw [ht]; exact e3
    · exact e4.F ht
  · refine lv_i2l hx hb dQ_7 rfl ?_
    refine rk_last (A := fun q => Af q ∨ q = o) (H0 := s.heap) hx hb hAr ((e2 o hol hno).trans ho) e4 (Or.inr rfl) dQ_8 (fun H2 locs2 f1 f2 f3 f4 => ?_)
    refine lv_goto (tgt := 15) hx hb dQ_9 (by decide) ?_
    refine lv_iconst (v := 0) hx hb dQ_15 (by decide) ?_
    refine W.widen (k := 1) (n := 6) (by omega) (by omega) ?_
    refine vx_ret ?_
    refine W.iret hx hb B.returns (fun t ht _ => ⟨fun _ => v.toInt64, ?_, ?_, ?_, ?_, ?_⟩) (fun q hq => f4.2.2 q hq) dQ_16 B.notSynchronized
    · rw [hvo]; rfl
    · intro w hw; rw [hvo] at hw; cases hw; rfl
    · rw [ht]; exact f2
    · rw [ht]
      exact e3.kept (fun k y hy => f3 y.1 (fun z => hno (by rw [← z]; exact hD.2 k y hy)))
    · exact f4.F ht
