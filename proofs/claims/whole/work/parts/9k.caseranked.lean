/-! THE LAW'S CASE of ranked -/
theorem rk_sem {F : Nat} {hX hM : qm_H} (hR : qE_R F hX hM) (x : Int32) : ∃ (vo : Option Int32) (ψ ψ' : qm_F), hM = mw ψ ∧ rk_case hX x vo ∧ qm_Rn 200 90 0 (qm_el 2 [.ref 0, .int x]) [] (mw ψ) (some (.int (vo.getD 0)), mw ψ') ∧ qm_Rn 200 30 0 (qm_el 1 [.ref 0]) [] (mw ψ') (some (.int (rl_k vo)), mw ψ') ∧ qE_R F hX (mw ψ') := by
  rcases hR with ⟨nR, φ, ψ, tn, rfl, rfl, hA, hn⟩ | ⟨nR, nN, nT, gg, nI, ρ, φ, ψ, φ0, ψ0, Vf, Hb, rk, u, nK, o, s, tn, pn, kp, cur, fs, N, c, rfl, rfl, hρ, hD, hQ⟩
  · obtain ⟨ψ', e1, e2, h'⟩ := sn_ranked (F := F) hA x
    exact ⟨none, ψ, ψ', rfl, Or.inl ⟨nR, φ, rfl, rfl⟩, mo_ranked_n F 200 ψ x (0, ψ') (by omega) e1, mo_thrown_n F 200 ψ' 1 (by omega) (by unfold mo_thrown; rw [e2]), Or.inl ⟨nR, φ, ψ', tn, rfl, rfl, h', hn⟩⟩
  · rcases so_ranked hD x with ⟨v, ψ', g1, g2, g3, g4, h'⟩ | ⟨ψ', g1, g3, g4, h'⟩
    · exact ⟨some v, ψ, ψ', rfl, Or.inr ⟨F, nR, nN, nT, gg, ρ, φ, rfl, Or.inr ⟨v, g1, g2, rfl⟩⟩, mo_ranked_n F 200 ψ x (v, ψ') (by omega) g3, mo_thrown_n F 200 ψ' 0 (by omega) (by unfold mo_thrown; rw [g4]), Or.inr ⟨nR, nN, nT, gg, nI, ρ, φ, ψ', φ0, ψ0, Vf, Hb, rk, u, nK, o, s, tn, pn, kp, cur, fs, N, c, rfl, rfl, hρ, h', hQ⟩⟩
    · exact ⟨none, ψ, ψ', rfl, Or.inr ⟨F, nR, nN, nT, gg, ρ, φ, rfl, Or.inl ⟨g1, rfl⟩⟩, mo_ranked_n F 200 ψ x (0, ψ') (by omega) g3, mo_thrown_n F 200 ψ' 1 (by omega) (by unfold mo_thrown; rw [g4]), Or.inr ⟨nR, nN, nT, gg, nI, ρ, φ, ψ', φ0, ψ0, Vf, Hb, rk, u, nK, o, s, tn, pn, kp, cur, fs, N, c, rfl, rfl, hρ, h', hQ⟩⟩
theorem rl_goodS : GoodIn qm_T (va_wsS RL 45 yL_ranked (Cond.codeWith yL_ranked cL_ranked 4 (some .int) [(0, 9, 12, 13)] :: qm_T)) := by
  intro w hw
  unfold va_wsS at hw
  rcases List.mem_append.mp hw with hw | hw
  · simp only [List.mem_cons, List.not_mem_nil, or_false] at hw
    rcases hw with rfl | rfl | rfl
    · exact ⟨qw_T (qw_at 1218 (by decide +kernel)) rfl, good_of_word rfl⟩
    · exact ⟨qw_T (qw_at 1219 (by decide +kernel)) rfl, good_of_word rfl⟩
    · exact ⟨qw_T (qw_at 135 (by decide +kernel)) rfl, good_of_word rfl⟩
  · rcases List.mem_cons.mp hw with rfl | hw
    · exact ⟨qw_T (qw_at 1220 (by decide +kernel)) rfl, good_of_word rfl⟩
    · exact ⟨hw, good_of_word (qw_g hw)⟩
section RKC
variable {p : Program} {l : Launch} {e : Env} {R : Room} {s : State} {m : MethodId} {args : Array Value} {below : List Frame} {meth : Method} {c : Code} {H : Heap} {cells slots : Nat} {Q : State → Prop}
variable {D : va_G} {G : ClassId × ClassId × ClassId}
/-- behind a call of the law's ranked -/
theorem rl_cont {vo : Option Int32} {h : qm_H} {mc ms pc o : Nat} {a : Array Value} {ad : Nat → Nat} {Af free : Nat → Prop} {cA : ClassId} {ls : Array Slot} {st0 rest : List Value} (hr : vx_Run p l e R s m args below meth c H [] cells slots mc ms (F0 m pc ls st0) rest (rl_Qc D G ad Af vo h o cA a) (fun _ _ _ => False) free) (hf : ∀ q, free q → s.heap.size ≤ q)
    (kk : ∀ (H1 : Heap) (f1 : Nat → Int64), (∀ v, vo = some v → f1 0 = v.toInt64) → H1[o]? = some (vp_cell cA (1, .inr (.inl f1))) → va_P D vwCl (qm_W G ad h) H1 → H.size ≤ H1.size → (∀ q : Nat, q < H.size → ¬ (Af q ∨ q = o) → H1[q]? = H[q]?) → W p l e R s m args below meth c H1 [] (cells + mc) (slots + ms) Q (F0 m (pc + 3) ls (.int (rl_k vo) :: rest))) : W p l e R s m args below meth c H [] cells slots Q (F0 m pc ls st0) := by
  intro T hT X
  rcases hr T hT X with ⟨v, st₀, t, T', L, h0, X', hL, e1, e2, ⟨f1, hv, k1, k2, k3, hz, hk⟩, st⟩ | ⟨q, st₀, t, T', L, E, ce, h0, X', hL, e1, e2, hno, hce, hcv, hcl, st⟩
  · have hv' := Outcome.returned.inj hv
    subst hv'
    rw [h0] at hz hk
    obtain ⟨t2, a1, b1⟩ := va_forget (fun q hq => hf _ (hL q (by simpa using hq))) (kk T'.heap f1 k1 (by rw [e1]; exact k2) (by rw [e1]; exact k3) (by rw [e1]; exact hz) (fun q g1 g2 => by rw [e1]; exact hk q g1 g2)) T' rfl X'
    exact ⟨t2, st t2 a1, b1⟩
  · exact hno.elim
end RKC
section RKD
variable {p : Program} {l : Launch} {e : Env} {R : Room} {s : State} {m : MethodId} {args : Array Value} {below : List Frame} {meth : Method} {c : Code} {Q : State → Prop}
variable {D : va_G} {G : ClassId × ClassId × ClassId} {o b L X M cu su F K0 K1 sa : Nat} {xs : Nat → Int32}
theorem rk_lg (a : Int64) : lg_cmp a a = 0 := by
  unfold lg_cmp
  rw [if_neg (by simp), if_pos rfl]
set_option maxRecDepth 100000 in
theorem case_ranked2 (hl0 : l.stackTraces = false) (hZ2 : rk_Z sa (fun q => s.heap.size ≤ q) s) (hx : p.tables.exec = Jvm.exec) (hb : c.code = cL_law) (hml : c.maxLocals = 7) (hown : s.vm.findClass RL = some m.cls) (hts : ∀ w ∈ qm_T, w.before args s = true) (hnw : qm_nw s) (hK : va_K D vwCl (qm_tys G) s) (hZ : qL_Z K0 K1 s) (hX : va_X b L xs s s.heap) (hbl : b < s.heap.size) (hL : L ≤ 3072) (hRf : 200 + 2 ≤ R.frames) (hRl : 40 * 200 + 80 ≤ R.locals) (hcu : 31 ≤ cu) (hsu : 8000 ≤ su) : qE_case p l e R s m args below meth c Q D G b L X M o cu su (qE_R F) 394 := by
  intro I H Ax Am ax am hX0 hM0 co cells slots ls hI S hR h1 h2 hl hC hSl kk
  subst h1
  subst h2
  obtain ⟨⟨x1, x2, x3⟩, m1, m2, m3⟩ := qE_wf hX0 hM0 hR
  obtain ⟨vo, ψ, ψ', rfl, hcase, rm, rt, hR'⟩ := rk_sem hR (xs (I + 1))
  obtain ⟨s1, s2, s3, s4, s5, s6, s7, s8, cA, f, rfl, hAr, hNm⟩ := id S
  have hoH : o < H.size := (Array.getElem?_eq_some_iff.mp s8).1
  have h0x : 0 < hX0.1.length := (List.getElem?_eq_some_iff.mp x3).1
  generalize had : qL_ad hX0.1.length ax H.size K0 K1 0 = ad
  have hW0 : qm_W G ad hX0 = qm_W G ax hX0 := qL_W rfl (fun a ha => by rw [← had]; exact qL_ad_lo ha) (fun _ _ _ => rfl) (by rw [← had]; exact qL_closed x1)
  have hlo : ad 0 = ax 0 := by rw [← had]; exact qL_ad_lo h0x
  have hA : ∀ q, (Ax q ∨ H.size ≤ q) → s.heap.size ≤ q := fun q hq => hq.elim (fun y => (s2.2.2 q y).1) (fun y => Nat.le_trans s1.1 y)
  have hAo : ¬ (Ax o ∨ H.size ≤ o) := fun z => z.elim s6 (fun y => absurd hoH (Nat.not_lt_of_le y))
  refine lv_aload_n hx hb dL_law_394 rfl (lv_at hl 3 rfl) ?_
  refine qL_arg (k := 1) (ki := 1) hx hb hX hbl s1 hl (lv_at hl 4 rfl) (lv_at hl 0 rfl) (qL_ik rfl) rfl (by omega) (by omega) dL_law_395 dL_law_396 dL_law_398 dL_law_399 dL_law_400 ?_
  refine lv_aload_n hx hb dL_law_401 rfl (lv_at hl 1 rfl) ?_
  refine rl_cont (vo := vo) (h := hX0) (ad := ad) (Af := fun q => Ax q ∨ H.size ≤ q) (o := o) (cA := cA) (vx_runSX (As := [.ref (ax 0), .int (xs (I + 1)), .ref o]) (rest := []) (mc := 1) (ms := 6) (n := 3) ⟨hx, hb, hml, hown, hts⟩ (rl_met (D := D) (G := G) (ad := ad) (Af := fun q => Ax q ∨ H.size ≤ q) (sa := sa) (o := o) (cA := cA) (f := f) hl0 hcase x3) (vx_cwSW 3 hts rl_goodS rfl rfl rfl ⟨by decide +kernel, by decide +kernel, by decide +kernel⟩ ⟨by show 12 + 1 + 1 ≤ R.frames; omega, by show 8 + (4 + 11) + (40 * 12 + 40) ≤ R.locals; omega⟩) ⟨rl_blind D G ad _ sa _ hX0 o cA f, fun U hU hW => ?_⟩ rfl rfl hl.1 rfl (lv_room (Nat.le_of_ble_eq_true rfl)) dL_law_402 ⟨by omega, by omega⟩) (fun q hq => hq.elim (hA q) (fun y => by rw [y]; exact s5)) (fun H1 f1 k1 k2 k3 k4 k5 => ?_)
  · refine ⟨by rw [hlo], ⟨⟨rfl, by rw [hU, hW0]; exact s2.1, by rw [hW0]; exact ⟨s2.2.1.1, fun k q hq => Or.inl (s2.2.1.2 k q hq)⟩, va_K.moved hW.alike hK, by rw [hU, ← had]; exact fun a g1 g2 => qL_ad_new g1 g2, by rw [hU]; exact fun q hq => Or.inr hq, ?_, hnw.warm hW⟩, ?_⟩, by rw [hU]; exact s8, hAo, arrOfT_moved hW.alike hAr⟩
    · rw [← had]
      exact hZ.to x2 hW hA (fun q hq => by rw [hU]; exact s1.2.1 q hq (fun y => absurd y (Nat.not_le_of_lt hq)))
    · exact hZ2.to hW hA (fun q h1 h2 => by rw [hU]; exact s1.2.1 q h1 h2)
  · have S1 : qL_St D G s H1 (fun q => Ax q ∨ (H.size ≤ q ∧ q < H1.size)) ad hX0 Am am (mw ψ) o (vp_cell cA (1, .inr (.inl f1))) := by
      refine ⟨⟨Nat.le_trans s1.1 k4, fun q g1 g2 => ?_, fun q hq => absurd hq List.not_mem_nil⟩, ⟨k3, ?_, ?_⟩, s3.other (Af := fun q => (Ax q ∨ H.size ≤ q) ∨ q = o) k4 k5 (fun q hq z => ?_), ?_, s5, ?_, s7, k2, cA, f1, rfl, hAr, hNm⟩
      · rw [k5 q (Nat.lt_of_lt_of_le g1 s1.1) (fun z => g2 (z.elim (hA q) (fun y => by rw [y]; exact s5)))]
        exact s1.2.1 q g1 g2
      · rw [hW0]
        exact ⟨s2.2.1.1, fun k q hq => Or.inl (s2.2.1.2 k q hq)⟩
      · rintro q (y | y)
        · exact ⟨(s2.2.2 q y).1, Nat.lt_of_lt_of_le (s2.2.2 q y).2 k4⟩
        · exact ⟨Nat.le_trans s1.1 y.1, y.2⟩
      · rcases z with (z | z) | z
        · exact s4 q z hq
        · exact absurd (s3.2.2 q hq).2 (Nat.not_lt_of_le z)
        · rw [z] at hq; exact s7 hq
      · rintro q (y | y) z
        · exact s4 q y z
        · exact absurd (s3.2.2 q z).2 (Nat.not_lt_of_le y.1)
      · rintro (y | y)
        · exact s6 y
        · exact absurd hoH (Nat.not_lt_of_le y.1)
    refine lv_istore (lv' := (5, .int (rl_k vo)) :: qL_lv b (ax 0) (am 0) o I) hx hb dL_law_405 hl (by decide) rfl (fun ls hl => ?_)
    refine lv_aload_n hx hb dL_law_407 rfl (lv_at hl 3 rfl) ?_
    refine qL_arg (k := 1) (ki := 1) hx hb hX hbl S1.1 hl (lv_at hl 5 rfl) (lv_at hl 1 rfl) (qL_ik rfl) rfl (by omega) (by omega) dL_law_408 dL_law_409 dL_law_411 dL_law_412 dL_law_413 ?_
    refine qL_op (k := 90) (r := (yX9_ranked, cX9_ranked, 2, (some .int), 9, 1, qc_90)) (as := [xs (I + 1)]) (rest := []) (d := 200) (ci := 9) (index := 50) (S := 0) (v := some (.int (vo.getD 0))) (h := mw ψ) (h' := mw ψ') hx hb hml hown hts hnw (by rfl) (Nat.le_of_ble_eq_true rfl) rm (by decide) (by decide +kernel) m3 (qw_at 1686 (by decide +kernel)) (qw_at 1687 (by decide +kernel)) (qw_at 1688 (by decide +kernel)) (show qm_np ((yX9_ranked, cX9_ranked, 2, (some .int), 9, 1, qc_90) : qm_R) 1 from by decide +kernel) hK S1.2.2.1 S1.1 hZ m2 (qL_closed m1) hl.1 (Nat.le_of_ble_eq_true rfl) hRf hRl (by show cells + 1 + (22 - 22) ≤ R.cells; omega) (by show slots + 6 + (qm_sl mw_K - qm_sl mw_K) ≤ R.slots; omega) dL_law_414 (fun H2 f1' f2' f3' f4' => ?_)
    have S2 := qL_stM S1 f1' f2' f3' f4'
    generalize ham : qL_ad (mw ψ).1.length am H1.size K0 K1 0 = am2 at S2
    have ham0 : am2 0 = am 0 := by rw [← ham]; exact qL_ad_lo (List.getElem?_eq_some_iff.mp m3).1
    refine lv_istore (lv' := (6, .int (vo.getD 0)) :: (5, .int (rl_k vo)) :: qL_lv b (ax 0) (am 0) o I) hx hb dL_law_417 hl (by decide) rfl (fun ls hl => ?_)
    have hl2 : lv_has ls 7 ((6, .int (vo.getD 0)) :: (5, .int (rl_k vo)) :: qL_lv b (ax 0) (am2 0) o I) := by rw [ham0]; exact hl
    refine lv_aload_n hx hb dL_law_419 rfl (lv_at hl2 4 rfl) ?_
    have wfM2 := (qE_wf hX0 (mw ψ') hR').2
    refine qL_op (k := 30) (r := (yX9_thrown, cX9_thrown, 1, (some .int), 9, 1, qc_30)) (as := []) (rest := []) (d := 200) (ci := 9) (index := 51) (S := 0) (v := some (.int (rl_k vo))) (h := mw ψ') (h' := mw ψ') hx hb hml hown hts hnw (by rfl) (Nat.le_of_ble_eq_true rfl) rt (by decide) (by decide +kernel) wfM2.2.2 (qw_at 1452 (by decide +kernel)) (qw_at 1453 (by decide +kernel)) (qw_at 1454 (by decide +kernel)) (show qm_np ((yX9_thrown, cX9_thrown, 1, (some .int), 9, 1, qc_30) : qm_R) 0 from by decide +kernel) hK S2.2.2.1 S2.1 hZ wfM2.2.1 (qL_closed wfM2.1) hl.1 (Nat.le_of_ble_eq_true rfl) hRf hRl (by show cells + 1 + (22 - 22) + (22 - 22) ≤ R.cells; omega) (by show slots + 6 + (qm_sl mw_K - qm_sl mw_K) + (qm_sl mw_K - qm_sl mw_K) ≤ R.slots; omega) dL_law_420 (fun H3 g1' g2' g3' g4' => ?_)
    have S3 := qL_stM S2 g1' g2' g3' g4'
    have fin : ∀ (ls' : Array Slot), lv_has ls' 7 (qL_lv b (ax 0) (am 0) o I) → W p l e R s m args below meth c H3 [] (cells + 1 + ((mw ψ').1.length - (mw ψ).1.length) + ((mw ψ').1.length - (mw ψ').1.length)) (slots + 6 + (qm_sl (mw ψ').1 - qm_sl (mw ψ).1) + (qm_sl (mw ψ').1 - qm_sl (mw ψ').1)) Q (F0 m 447 ls' []) := by
      intro ls' hl'
      refine lv_goto (tgt := 1084) hx hb dL_law_447 (by decide) ?_
      refine qL_mono (by show cells + 1 + (22 - 22) + (22 - 22) ≤ cells + cu; omega) (by show slots + 6 + (qm_sl mw_K - qm_sl mw_K) + (qm_sl mw_K - qm_sl mw_K) ≤ slots + su; omega) (kk H3 _ _ _ _ hX0 (mw ψ') _ ls' (slots + su) (Nat.le_refl _) S3 hR' hlo ?_ hl')
      rw [qL_ad_lo (List.getElem?_eq_some_iff.mp wfM2.2.2).1]
      exact ham0
    have hl3 : lv_has ls 7 (qL_lv b (ax 0) (am 0) o I) := lv_sub hl [2, 3, 4, 5, 6] rfl
    refine lv_iload hx hb dL_law_423 (lv_at hl 1 rfl) ?_
    refine lv_icmp_eq (tgt := 430) hx hb dL_law_425 (by decide) (fun _ => ?_) (fun z => absurd rfl z)
    refine lv_iload hx hb dL_law_430 (lv_at hl 1 rfl) ?_
    refine lv_if_ne (tgt := 447) hx hb dL_law_432 (by decide) (fun _ => fin ls hl3) (fun hz => ?_)
    cases vo with
    | none => exact absurd hz (by decide)
    | some v =>
      refine lv_aload_n hx hb dL_law_435 rfl (lv_at hl 3 rfl) ?_
      refine lv_iconst (v := 0) hx hb dL_law_436 (by decide) ?_
      have hKl : va_K D vwCl [(cA, .long)] s := ⟨hK.1, fun k q hk => by
        have hz : k < 1 := (List.getElem?_eq_some_iff.mp hk).1
        obtain rfl : k = 0 := by omega
        cases hk
        exact ⟨hAr, hNm⟩⟩
      have hPl : va_P D vwCl [(o, .inl (cA, 1, .inr (.inl f1)))] H3 := fun k q hk => by
        have hz : k < 1 := (List.getElem?_eq_some_iff.mp hk).1
        obtain rfl : k = 0 := by omega
        cases hk
        exact S3.2.2.2.2.2.2.2.1
      refine va_lald hx hb hKl hPl 0 0 rfl rfl (by unfold vp_in; decide) dL_law_437 ?_
      refine lv_iload hx hb dL_law_438 (lv_at hl 0 rfl) ?_
      refine lv_i2l hx hb dL_law_440 rfl ?_
      refine W.lcmp hx hb dL_law_441 ?_
      have hcmp : lg_cmp (f1 ((0 : Int32).toNatClampNeg)) ((some v).getD 0).toInt64 = 0 := by
        have e1 : (0 : Int32).toNatClampNeg = 0 := by decide
        rw [e1, k1 v rfl]
        exact rk_lg _
      refine lv_if_eq (tgt := 447) hx hb dL_law_442 (by decide) (fun _ => fin ls hl3) (fun z => absurd hcmp z)
end RKD
/-- the string and the statics, at the law's entry -/
theorem rk_Zs {s : State} {args : Array Value} (hg : (Jvm.Cond.and given_1 narrow_1).before args s = true) (htb : ∀ w ∈ lw_tbl, w.before args s = true) : ∃ sa, rk_Z sa (fun q => s.heap.size ≤ q) s := by
  have hfl := flat_of_before _ hg
  obtain ⟨D, G, hK⟩ := qE_va_K htb
  have hcur : s.vm.findClass RX8 = some (D.1 8) := (hK.1 8 _ (qm_vw (ci := 8) (by decide))).2.1
  have hs := htb (Cond.stringRef RX8 136 "no such guess") (qw_at 1265 (by decide +kernel))
  obtain ⟨k, cf, i, a, -, -, -, -, -, hev⟩ := Cond.stringRef_spec (args := args) (first := s) (o := none) (idx := []) hcur hs
  have hA : ∀ a : Nat, a < s.heap.size → ¬ (s.heap.size ≤ a) := fun a ha hb => absurd ha (Nat.not_lt_of_le hb)
  exact ⟨a, vk_R.of hs hev, vx_Zqof (htb _ (qw_at 1253 (by decide +kernel))) (htb _ (qw_at 154 (by decide +kernel))) (hfl _ (by decide +kernel)) hA, vx_Zqof (htb _ (qw_at 1255 (by decide +kernel))) (htb _ (qw_at 154 (by decide +kernel))) (hfl _ (by decide +kernel)) hA⟩
