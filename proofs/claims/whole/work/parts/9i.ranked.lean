/-! SketchFiller.ranked: it returns or throws -/
def rk_r : qm_R := (yX8_ranked, cX8_ranked, 2, (some .int), 8, 1, [])
theorem dR_0 : decode cX8_ranked 0 = .ok (.aload_n 0, 1) := by decide +kernel
theorem dR_1 : decode cX8_ranked 1 = .ok (.getfield 20, 3) := by decide +kernel
theorem dR_4 : decode cX8_ranked 4 = .ok (.ifnull 17, 3) := by decide +kernel
theorem dR_7 : decode cX8_ranked 7 = .ok (.aload_n 0, 1) := by decide +kernel
theorem dR_8 : decode cX8_ranked 8 = .ok (.getfield 20, 3) := by decide +kernel
theorem dR_11 : decode cX8_ranked 11 = .ok (.getfield 88, 3) := by decide +kernel
theorem dR_14 : decode cX8_ranked 14 = .ok (.iload_n 1, 1) := by decide +kernel
theorem dR_15 : decode cX8_ranked 15 = .ok (.invokevirtual 124, 3) := by decide +kernel
theorem dR_18 : decode cX8_ranked 18 = .ok (.ifCond .ne 13, 3) := by decide +kernel
theorem dR_21 : decode cX8_ranked 21 = .ok (.new 134, 3) := by decide +kernel
theorem dR_24 : decode cX8_ranked 24 = .ok (.dup, 1) := by decide +kernel
theorem dR_25 : decode cX8_ranked 25 = .ok (.ldc 136, 2) := by decide +kernel
theorem dR_27 : decode cX8_ranked 27 = .ok (.invokespecial 138, 3) := by decide +kernel
theorem dR_30 : decode cX8_ranked 30 = .ok (.athrow, 1) := by decide +kernel
theorem dR_31 : decode cX8_ranked 31 = .ok (.aload_n 0, 1) := by decide +kernel
theorem dR_32 : decode cX8_ranked 32 = .ok (.getfield 20, 3) := by decide +kernel
theorem dR_35 : decode cX8_ranked 35 = .ok (.getfield 88, 3) := by decide +kernel
theorem dR_38 : decode cX8_ranked 38 = .ok (.iload_n 1, 1) := by decide +kernel
theorem dR_39 : decode cX8_ranked 39 = .ok (.invokevirtual 141, 3) := by decide +kernel
theorem dR_42 : decode cX8_ranked 42 = .ok (.ireturn, 1) := by decide +kernel
theorem rk_f20 : qm_eOK rk_r (.getfield 20, 3, 8, 2, 2) := (qk_6.2 1 (.getfield 20, 3, 8, 2, 2) rfl).2.1
theorem rk_f88 : qm_eOK rk_r (.getfield 88, 3, 4, 0, 32) := (qk_6.2 11 (.getfield 88, 3, 4, 0, 32) rfl).2.1
theorem rk_v124 : qm_eOK rk_r (.invokevirtual 124, 3, 204, 1, 3) := (qk_6.2 15 (.invokevirtual 124, 3, 204, 1, 3) rfl).2.1
theorem rk_v141 : qm_eOK rk_r (.invokevirtual 141, 3, 213, 1, 3) := ⟨(yX3_guessAt, cX3_guessAt, 2, (some .int), 3, 1, qc_213), rfl, by decide +kernel, qw_at 1291 (by decide +kernel), qw_at 959 (by decide +kernel), qw_at 960 (by decide +kernel), by decide, fun _ => ⟨by decide, by decide +kernel⟩⟩
theorem rk_in : ∀ w ∈ rk_at.filter vx_no, w ∈ lw_tbl := qw_in _ [1268, 1269, 154, 1248, 1257, 1259, 1262, 1264, 1249, 1250, 165, 166, 1251, 1256, 1260, 1280, 1238, 1281, 1240, 1282, 1242, 1252, 1254, 1244, 1276, 1277, 1279, 1244, 1267, 1270, 1230, 1270, 1271, 1272, 1273, 1232, 1273, 1274, 1275, 1276, 1234, 1266, 1227, 1228, 1235, 1236, 1237, 1239, 1241, 1243, 1247, 1246, 1245] (by decide +kernel)
theorem rk_isn : ∀ w ∈ rk_at.filter vx_no, (goodWord w || (qm_isN w && w.onTables)) = true := by decide +kernel
theorem rk_atw {args : Array Value} {s : State} (hts : ∀ w ∈ qm_T, w.before args s = true) (hnw : qm_nw s) : ∀ w ∈ rk_at.filter vx_no, w.before args s = true := by
  intro w hw
  have h1 := rk_in w hw
  have h2 := rk_isn w hw
  rw [Bool.or_eq_true, Bool.and_eq_true] at h2
  rcases h2 with g | ⟨g, g2⟩
  · exact hts w (qw_T h1 g)
  · exact va_Nw.use g2 (hnw w h1 g)
/-- the string and the two statics of Throwable -/
def rk_Z (sa : Nat) (A : Nat → Prop) (U : State) : Prop := vk_R RX8 136 "no such guess" sa U ∧ vx_Zq Bundle.tN "UNASSIGNED_STACK" Bundle.steD A U U.heap ∧ vx_Zq Bundle.tN "SUPPRESSED_SENTINEL" Bundle.listD A U U.heap
theorem rk_Z.to {sa : Nat} {A B : Nat → Prop} {s U : State} (hZ : rk_Z sa A s) (hW : s.WarmedH U.vm) (hA : ∀ q, B q → A q) (hk : ∀ q : Nat, q < s.heap.size → ¬ A q → U.heap[q]? = s.heap[q]?) : rk_Z sa B U :=
  ⟨vk_R.warm hW hZ.1, vx_Zq.narrow (vx_Zq.moved hW.alike (vx_Zq.kept hZ.2.1 hk)) hA, vx_Zq.narrow (vx_Zq.moved hW.alike (vx_Zq.kept hZ.2.2 hk)) hA⟩
def rk_Pc (D : va_G) (G : ClassId × ClassId × ClassId) (ad : Nat → Nat) (Af : Nat → Prop) (sa : Nat) (x : Int32) (h : qm_H) : Array Value → State → Prop := fun av U => qm_Pc D G ad Af (qL_Xp ad Af) [.ref 0, .int x] h av U ∧ rk_Z sa Af U
def rk_Qc (D : va_G) (G : ClassId × ClassId × ClassId) (ad : Nat → Nat) (Af : Nat → Prop) (vo : Option Int32) (h : qm_H) : Array Value → State → Outcome → State → Prop := fun _ st o t => ∃ v, vo = some v ∧ o = .returned (some (.int v)) ∧ va_P D vwCl (qm_W G ad h) t.heap ∧ va_F Af st t
def rk_XC (D : va_G) (G : ClassId × ClassId × ClassId) (ad : Nat → Nat) (Af : Nat → Prop) (vo : Option Int32) (h : qm_H) : String → State → State → Prop := fun E st t => E = rk_E ∧ vo = none ∧ va_P D vwCl (qm_W G ad h) t.heap ∧ va_F Af st t
/-- what the answer is -/
def rk_case (h : qm_H) (x : Int32) (vo : Option Int32) : Prop :=
  (∃ (nR : Nat) (φ : qm_F), h = c0 nR φ ∧ vo = none) ∨ (∃ (F nR nN nT gg : Nat) (ρ : Nat → Nat → Option Nat) (φ : qm_F), h = cs nR nN nT gg [] ρ φ ∧ ((pr_hasGuess F nR nN nT φ x = some 0 ∧ vo = none) ∨ ∃ v, pr_hasGuess F nR nN nT φ x = some 1 ∧ pr_guessAt F nR nN nT gg φ x = some v ∧ vo = some v))
theorem rk_blind (D : va_G) (G : ClassId × ClassId × ClassId) (ad : Nat → Nat) (Af : Nat → Prop) (sa : Nat) (x : Int32) (h : qm_H) : FrameBlind (rk_Pc D G ad Af sa x h) := by
  intro a U g mk q
  refine ⟨qm_blind (qL_XP ad Af) _ _ a U g mk q.1, ?_⟩
  obtain ⟨z1, z2, z3⟩ := q.2
  exact ⟨vk_R.same (u := U) (U := U.calling g mk a) rfl z1, vx_Zq.moved (u := U) (U := U.calling g mk a) (Vm.Alike.refl U.vm) z2, vx_Zq.moved (u := U) (U := U.calling g mk a) (Vm.Alike.refl U.vm) z3⟩
section RKW
variable {p : Program} {l : Launch} {e : Env} {R : Room} {s : State} {m : MethodId} {args : Array Value} {below : List Frame} {meth : Method} {c : Code} {H : Heap} {locs : List Loc} {cells slots : Nat} {Q : State → Prop}
variable {D : va_G} {G : ClassId × ClassId × ClassId} {ad : Nat → Nat} {Af : Nat → Prop}
theorem rk_go {en : qm_e} {pc pc' : Nat} {ls st ls' st' : List Value} {h : qm_H} {lsR : Array Slot}
    (X : qm_X p s m args meth c rk_r) (hd : decode cX8_ranked pc = .ok (en.1, en.2.1)) (hok : qm_eOK rk_r en) (hln : en.2.1 = qm_len en.1)
    (hK : va_K D vwCl (qm_tys G) s) (hA : ∀ q, s.heap.size ≤ q → Af q) (hXs : qm_Xs ad s) (hJ : qm_J D G ad Af s.heap H locs h) (hl : qm_L ad lsR 2 ls)
    (hs : qm_x 1 en pc ls st h = some (.inl (pc', ls', st', h))) (hR : 1 ≤ R.frames ∧ 40 ≤ R.locals) (hC : cells ≤ R.cells) (hSl : slots ≤ R.slots)
    (kk : ∀ (H' : Heap) (locs' : List Loc) (lsR' : Array Slot), qm_J D G ad Af s.heap H' locs' h → qm_L ad lsR' 2 ls' → W p l e R s m args below meth c H' locs' cells slots Q (F0 m pc' lsR' (st'.map (qm_cv ad)))) :
    W p l e R s m args below meth c H locs cells slots Q (F0 m pc lsR (st.map (qm_cv ad))) := by
  refine qm_one (r := rk_r) X hd hok (Or.inr hln) hK hA hXs hJ hl hs hR (by rw [Nat.sub_self]; exact hC) (by rw [Nat.sub_self]; exact hSl) (fun H' locs' lsR' a b => ?_)
  rw [Nat.sub_self, Nat.sub_self]
  exact kk H' locs' lsR' a b
theorem rk_call {rj : qm_R} {en : qm_e} {pc j d : Nat} {ls st as rest : List Value} {h : qm_H} {v : Option Value} {lsR : Array Slot}
    (X : qm_X p s m args meth c rk_r) (hd : decode cX8_ranked pc = .ok (en.1, en.2.1)) (hok : qm_eOK rk_r en) (hln : en.2.1 = qm_len en.1)
    (hK : va_K D vwCl (qm_tys G) s) (hA : ∀ q, s.heap.size ≤ q → Af q) (hXp : qL_Xp ad Af s) (hJ : qm_J D G ad Af s.heap H locs h) (hl : qm_L ad lsR 2 ls)
    (hs : qm_x 1 en pc ls st h = some (.inr (.inr (j, as, rest)))) (hmj : qm_m j = some rj) (hjN : j < qm_NM) (hfit : qm_cat as ≤ rj.2.2.1) (hrun : qm_Rn d j 0 (qm_el rj.2.2.1 as) [] h (v, h))
    (hRf : d + 2 ≤ R.frames) (hRl : 40 * d + 80 ≤ R.locals) (hC : cells ≤ R.cells) (hSl : slots ≤ R.slots)
    (kk : ∀ (H' : Heap) (locs' : List Loc), qm_J D G ad Af s.heap H' locs' h → W p l e R s m args below meth c H' locs' cells slots Q (F0 m (pc + 3) lsR ((v.toList ++ rest).map (qm_cv ad)))) :
    W p l e R s m args below meth c H locs cells slots Q (F0 m pc lsR (st.map (qm_cv ad))) := by
  refine qm_callW (r := rk_r) (Xp := qL_Xp ad Af) (h1 := h) (v := v) (qL_XP ad Af) X hd hok (Or.inr hln) hK hA hXp hJ hl hs hmj (qk_m j rj hmj).1 hjN (qL_met hmj hfit hrun) hRf hRl (by rw [Nat.sub_self]; exact hC) (by rw [Nat.sub_self]; exact hSl) (fun H' locs' a => ?_)
  rw [Nat.sub_self, Nat.sub_self]
  exact kk H' locs' a
/-- 'no such guess' -/
theorem rk_thr {vo : Option Int32} {h : qm_H} {sa : Nat} {lsR : Array Slot} {ls : List Value} (X : qm_X p s m args meth c rk_r) (hT : ∀ x ∈ c.exceptionTable.toList, False) (hl : l.stackTraces = false) (hZ : rk_Z sa Af s) (hvo : vo = none) (hJ : qm_J D G ad Af s.heap H locs h) (hls : qm_L ad lsR 2 ls)
    (hRf : 5 < R.frames) (hRl : 100 ≤ R.locals) (hC : 1 ≤ R.cells) (hSl : 6 ≤ R.slots) :
    W p l e R s m args below meth c H locs 0 0 (vx_MQ below (rk_Qc D G ad Af vo h) (rk_XC D G ad Af vo h) args s 1 6 Af) (F0 m 21 lsR []) := by
  obtain ⟨hx, hb, hml, hr, hown, hts, hlk, hnm, hnw⟩ := X
  refine rk_make (A := Af) hx hb hl hown (hts _ (qw_T (qw_at 1226 (by decide +kernel)) rfl)) (hts _ (qw_T (qw_at 157 (by decide +kernel)) rfl)) hZ.1 (rk_atw hts hnw) hZ.2.1 hZ.2.2 hJ.2.2.1 (hls.1.trans hml.symm) dR_21 dR_24 dR_25 dR_27 hRf (by show 0 + (13 * 3 + 43) ≤ R.locals; omega) (by omega) (by omega) (fun H1 ce e1 e2 e3 e4 e5 => ?_)
  refine vx_athrow hx hb dR_30 ?_
  refine vx_out (E := rk_E) (ce := ce) (fun z hz => (hT z hz).elim) hlk e3 e4 e5 (fun t ht _ => ⟨rfl, hvo, ?_, ?_⟩) (fun z hz => hJ.2.2.1.2.2 z hz) (Nat.le_refl _) (Nat.le_refl _)
  · rw [ht]
    exact hJ.1.kept (fun k y hy => e2 y.1 (hJ.1 k y hy).lt)
  · refine ⟨by rw [ht]; exact Nat.le_trans hJ.2.2.1.1 e1, fun q h1 h2 => ?_⟩
    rw [ht, e2 q (Nat.lt_of_lt_of_le h1 hJ.2.2.1.1)]
    exact hJ.2.2.1.2.1 q h1 h2
end RKW
theorem rk_met {l : Launch} {D : va_G} {G : ClassId × ClassId × ClassId} {ad : Nat → Nat} {Af : Nat → Prop} {sa : Nat} {x : Int32} {h : qm_H} {vo : Option Int32} (hl : l.stackTraces = false) (hc : rk_case h x vo) :
    vx_Met l yX8_ranked (Cond.code yX8_ranked cX8_ranked 2 (some .int) :: qm_T) (qm_rm 10 1 6) (rk_Pc D G ad Af sa x h) (rk_Qc D G ad Af vo h) (rk_XC D G ad Af vo h) 1 6 Af := by
  refine vx_ofW (cc := cX8_ranked) (maxL := 2) (ret := some .int) (by decide +kernel) rfl ?_
  intro p e s m args below meth c s₁ B hml hT hv
  obtain ⟨⟨rfl, hP, hD, hK, hz, hA, hXp, hnw⟩, hZ⟩ := hv
  have hts0 := atoms_spec (ws := Cond.code yX8_ranked cX8_ranked 2 (some .int) :: qm_T) B.pre
  have X : qm_X p s m _ meth c rk_r := ⟨B.exec, B.bytes, hml, B.returns, findClass_of_methodNamed B.named, fun w hw => hts0 w (List.mem_cons_of_mem _ hw), B.notSynchronized, (name_of_methodNamed B.named B.method).1, hnw⟩
  rw [lg_entry_eq]
  have hl0 := qm_entry ad (as := [.ref 0, .int x]) (n := 2) (Nat.le_of_ble_eq_true rfl)
  generalize (lg_sl (([.ref 0, .int x] : List Value).map (qm_cv ad)) ++ List.replicate (2 - (lg_sl (([.ref 0, .int x] : List Value).map (qm_cv ad))).length) Slot.unset).toArray = ls0 at hl0 ⊢
  have hl0 : qm_L ad ls0 2 [.ref 0, .int x] := hl0
  have hJ : qm_J D G ad Af s.heap s.heap [] h := ⟨hP, hD, va_S.rf, hz⟩
  have hR1 : 1 ≤ (headSpec (Cond.code yX8_ranked cX8_ranked 2 (some .int) :: qm_T) (qm_rm 10 1 6)).room.frames ∧ 40 ≤ (headSpec (Cond.code yX8_ranked cX8_ranked 2 (some .int) :: qm_T) (qm_rm 10 1 6)).room.locals := ⟨Nat.le_of_ble_eq_true rfl, Nat.le_of_ble_eq_true rfl⟩
  rcases hc with ⟨nR, φ, rfl, hvo⟩ | ⟨F, nR, nN, nT, gg, ρ, φ, rfl, hg⟩
  · refine rk_go (en := (.aload_n 0, 1, 0, 0, 0)) (pc' := 1) (st := []) (ls' := [.ref 0, .int x]) (st' := [.ref 0]) X dR_0 trivial rfl hK hA hXp.1 hJ hl0 rfl hR1 (Nat.zero_le _) (Nat.zero_le _) (fun H1 locs1 ls1 hJ hl1 => ?_)
    refine rk_go (en := (.getfield 20, 3, 8, 2, 2)) (pc' := 4) (st := [.ref 0]) (ls' := [.ref 0, .int x]) (st' := [.null]) X dR_1 rk_f20 rfl hK hA hXp.1 hJ hl1 rfl hR1 (Nat.zero_le _) (Nat.zero_le _) (fun H1 locs1 ls1 hJ hl1 => ?_)
    refine rk_go (en := (.ifnull 17, 3, 0, 0, 0)) (pc' := 21) (st := [.null]) (ls' := [.ref 0, .int x]) (st' := []) X dR_4 trivial rfl hK hA hXp.1 hJ hl1 rfl hR1 (Nat.zero_le _) (Nat.zero_le _) (fun H1 locs1 ls1 hJ hl1 => ?_)
    exact rk_thr X hT hl hZ hvo hJ hl1 (Nat.le_of_ble_eq_true rfl) (Nat.le_of_ble_eq_true rfl) (Nat.le_refl _) (Nat.le_refl _)
  · refine rk_go (en := (.aload_n 0, 1, 0, 0, 0)) (pc' := 1) (st := []) (ls' := [.ref 0, .int x]) (st' := [.ref 0]) X dR_0 trivial rfl hK hA hXp.1 hJ hl0 rfl hR1 (Nat.zero_le _) (Nat.zero_le _) (fun H1 locs1 ls1 hJ hl1 => ?_)
    refine rk_go (en := (.getfield 20, 3, 8, 2, 2)) (pc' := 4) (st := [.ref 0]) (ls' := [.ref 0, .int x]) (st' := [.ref 30]) X dR_1 rk_f20 rfl hK hA hXp.1 hJ hl1 rfl hR1 (Nat.zero_le _) (Nat.zero_le _) (fun H1 locs1 ls1 hJ hl1 => ?_)
    refine rk_go (en := (.ifnull 17, 3, 0, 0, 0)) (pc' := 7) (st := [.ref 30]) (ls' := [.ref 0, .int x]) (st' := []) X dR_4 trivial rfl hK hA hXp.1 hJ hl1 rfl hR1 (Nat.zero_le _) (Nat.zero_le _) (fun H1 locs1 ls1 hJ hl1 => ?_)
    refine rk_go (en := (.aload_n 0, 1, 0, 0, 0)) (pc' := 8) (st := []) (ls' := [.ref 0, .int x]) (st' := [.ref 0]) X dR_7 trivial rfl hK hA hXp.1 hJ hl1 rfl hR1 (Nat.zero_le _) (Nat.zero_le _) (fun H1 locs1 ls1 hJ hl1 => ?_)
    refine rk_go (en := (.getfield 20, 3, 8, 2, 2)) (pc' := 11) (st := [.ref 0]) (ls' := [.ref 0, .int x]) (st' := [.ref 30]) X dR_8 rk_f20 rfl hK hA hXp.1 hJ hl1 rfl hR1 (Nat.zero_le _) (Nat.zero_le _) (fun H1 locs1 ls1 hJ hl1 => ?_)
    refine rk_go (en := (.getfield 88, 3, 4, 0, 32)) (pc' := 14) (st := [.ref 30]) (ls' := [.ref 0, .int x]) (st' := [.ref 14]) X dR_11 rk_f88 rfl hK hA hXp.1 hJ hl1 rfl hR1 (Nat.zero_le _) (Nat.zero_le _) (fun H1 locs1 ls1 hJ hl1 => ?_)
    refine rk_go (en := (.iload_n 1, 1, 0, 0, 0)) (pc' := 15) (st := [.ref 14]) (ls' := [.ref 0, .int x]) (st' := [.int x, .ref 14]) X dR_14 trivial rfl hK hA hXp.1 hJ hl1 rfl hR1 (Nat.zero_le _) (Nat.zero_le _) (fun H1 locs1 ls1 hJ hl1 => ?_)
    have hrun : ∀ y, pr_hasGuess F nR nN nT φ x = some y → qm_Rn 9 204 0 (qm_el 2 [.ref 14, .int x]) [] (cs nR nN nT gg [] ρ φ) (some (.int y), cs nR nN nT gg [] ρ φ) := fun y hy => pr_hasGuess_n F 9 nR nN nT (cr_X gg (cs_X gg [])) (cr_R (cs_R ρ)) φ x y (by omega) hy
    rcases hg with ⟨hg, hvo⟩ | ⟨v, hg, hv, hvo⟩
    · refine rk_call (rj := (yX3_hasGuess, cX3_hasGuess, 2, (some .boolean), 3, 2, qc_204)) (en := (.invokevirtual 124, 3, 204, 1, 3)) (j := 204) (d := 9) (st := [.int x, .ref 14]) (as := [.ref 14, .int x]) (rest := []) (v := some (.int 0)) X dR_15 rk_v124 rfl hK hA hXp hJ hl1 rfl rfl (by decide) (Nat.le_of_ble_eq_true rfl) (hrun 0 hg) (Nat.le_of_ble_eq_true rfl) (Nat.le_of_ble_eq_true rfl) (Nat.zero_le _) (Nat.zero_le _) (fun H1 locs1 hJ => ?_)
      refine rk_go (en := (.ifCond .ne 13, 3, 0, 0, 0)) (pc' := 21) (st := [.int 0]) (ls' := [.ref 0, .int x]) (st' := []) X dR_18 trivial rfl hK hA hXp.1 hJ hl1 rfl hR1 (Nat.zero_le _) (Nat.zero_le _) (fun H1 locs1 ls1 hJ hl1 => ?_)
      exact rk_thr X hT hl hZ hvo hJ hl1 (Nat.le_of_ble_eq_true rfl) (Nat.le_of_ble_eq_true rfl) (Nat.le_refl _) (Nat.le_refl _)
    · refine rk_call (rj := (yX3_hasGuess, cX3_hasGuess, 2, (some .boolean), 3, 2, qc_204)) (en := (.invokevirtual 124, 3, 204, 1, 3)) (j := 204) (d := 9) (st := [.int x, .ref 14]) (as := [.ref 14, .int x]) (rest := []) (v := some (.int 1)) X dR_15 rk_v124 rfl hK hA hXp hJ hl1 rfl rfl (by decide) (Nat.le_of_ble_eq_true rfl) (hrun 1 hg) (Nat.le_of_ble_eq_true rfl) (Nat.le_of_ble_eq_true rfl) (Nat.zero_le _) (Nat.zero_le _) (fun H1 locs1 hJ => ?_)
      refine rk_go (en := (.ifCond .ne 13, 3, 0, 0, 0)) (pc' := 31) (st := [.int 1]) (ls' := [.ref 0, .int x]) (st' := []) X dR_18 trivial rfl hK hA hXp.1 hJ hl1 rfl hR1 (Nat.zero_le _) (Nat.zero_le _) (fun H1 locs1 ls1 hJ hl1 => ?_)
      refine rk_go (en := (.aload_n 0, 1, 0, 0, 0)) (pc' := 32) (st := []) (ls' := [.ref 0, .int x]) (st' := [.ref 0]) X dR_31 trivial rfl hK hA hXp.1 hJ hl1 rfl hR1 (Nat.zero_le _) (Nat.zero_le _) (fun H1 locs1 ls1 hJ hl1 => ?_)
      refine rk_go (en := (.getfield 20, 3, 8, 2, 2)) (pc' := 35) (st := [.ref 0]) (ls' := [.ref 0, .int x]) (st' := [.ref 30]) X dR_32 rk_f20 rfl hK hA hXp.1 hJ hl1 rfl hR1 (Nat.zero_le _) (Nat.zero_le _) (fun H1 locs1 ls1 hJ hl1 => ?_)
      refine rk_go (en := (.getfield 88, 3, 4, 0, 32)) (pc' := 38) (st := [.ref 30]) (ls' := [.ref 0, .int x]) (st' := [.ref 14]) X dR_35 rk_f88 rfl hK hA hXp.1 hJ hl1 rfl hR1 (Nat.zero_le _) (Nat.zero_le _) (fun H1 locs1 ls1 hJ hl1 => ?_)
      refine rk_go (en := (.iload_n 1, 1, 0, 0, 0)) (pc' := 39) (st := [.ref 14]) (ls' := [.ref 0, .int x]) (st' := [.int x, .ref 14]) X dR_38 trivial rfl hK hA hXp.1 hJ hl1 rfl hR1 (Nat.zero_le _) (Nat.zero_le _) (fun H1 locs1 ls1 hJ hl1 => ?_)
      have hrun2 : qm_Rn 9 213 0 (qm_el 2 [.ref 14, .int x]) [] (cs nR nN nT gg [] ρ φ) (some (.int v), cs nR nN nT gg [] ρ φ) := pr_guessAt_n F 9 nR nN nT gg (cs_X gg []) (cs_R ρ) φ x v (by omega) hv
      refine rk_call (rj := (yX3_guessAt, cX3_guessAt, 2, (some .int), 3, 1, qc_213)) (en := (.invokevirtual 141, 3, 213, 1, 3)) (j := 213) (d := 9) (st := [.int x, .ref 14]) (as := [.ref 14, .int x]) (rest := []) (v := some (.int v)) X dR_39 rk_v141 rfl hK hA hXp hJ hl1 rfl rfl (by decide) (Nat.le_of_ble_eq_true rfl) hrun2 (Nat.le_of_ble_eq_true rfl) (Nat.le_of_ble_eq_true rfl) (Nat.zero_le _) (Nat.zero_le _) (fun H1 locs1 hJ => ?_)
      refine W.widen (k := 1) (n := 6) (by omega) (by omega) ?_
      refine vx_ret ?_
      exact W.iret B.exec B.bytes B.returns (fun t ht _ => ⟨v, hvo, rfl, by rw [ht]; exact hJ.1, hJ.2.2.1.F ht⟩) (fun q hq => hJ.2.2.1.2.2 q hq) dR_42 B.notSynchronized
