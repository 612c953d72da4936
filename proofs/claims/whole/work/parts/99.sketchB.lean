/-! THE LAW'S SKETCH where there is one already, the case -/
section QE9
variable {p : Program} {l : Launch} {e : Env} {R : Room} {s : State} {m : MethodId} {args : Array Value} {below : List Frame} {meth : Method} {c : Code} {Q : State → Prop}
variable {D : va_G} {G : ClassId × ClassId × ClassId} {o b L X M cu su F K0 K1 : Nat} {xs : Nat → Int32}
set_option maxRecDepth 100000 in
theorem case_skB (hx : p.tables.exec = Jvm.exec) (hb : c.code = cL_law) (hml : c.maxLocals = 7) (hown : s.vm.findClass RL = some m.cls) (hts : ∀ w ∈ qm_T, w.before args s = true) (hnw : qm_nw s) (hK : va_K D vwCl (qm_tys G) s) (hZ : qL_Z K0 K1 s) (hX : va_X b L xs s s.heap) (hbl : b < s.heap.size) (hL : L ≤ 3072) (hRf : 200 + 2 ≤ R.frames) (hRl : 40 * 200 + 80 ≤ R.locals) (hF : 200000 ≤ F) (hcu : 31 ≤ cu) (hsu : 8000 ≤ su)
    {I : Nat} {H : Heap} {Ax Am : Nat → Prop} {ax am : Nat → Nat} {nR nN nT gg nI : Nat} {ρ : Nat → Nat → Option Nat} {φ ψ φ0 ψ0 : qm_F} {Vf : Nat → Nat → Nat → Nat} {Hb : List Nat} {rk : Nat → Nat} {u nK oo ss tn : Nat} {pn : Nat → Int32} {kp : Nat → Nat} {cur : Int32} {fs N : Nat} {cc : Nat → Nat} {co : Cell} {cells slots : Nat} {ls : Array Slot} (hI : I + 6 ≤ L) (S : qL_St D G s H Ax ax (cs nR nN nT gg [] ρ φ) Am am (mw ψ) o co) (hρ : qE_clo ρ ∧ qE_pw nR) (hD : sb_D F nR nN nT gg nI φ0 ψ0 Vf Hb rk u nK oo ss tn pn kp cur φ ψ) (hQ : sk_Q F nR nN nT gg nI φ0 ψ0 Hb fs N cc) (h1 : ax 0 = X) (h2 : am 0 = M) (hl : lv_has ls 7 (qL_lv b X M o I)) (hC : cells + cu ≤ R.cells) (hSl : slots + su + qE_pt (cs nR nN nT gg [] ρ φ) ≤ R.slots)
    (kk : ∀ (H' : Heap) (Ax' Am' : Nat → Prop) (ax' am' : Nat → Nat) (hX' hM' : qm_H) (co' : Cell) (ls' : Array Slot) (slots' : Nat), slots' + qE_pt hX' ≤ slots + su + qE_pt (cs nR nN nT gg [] ρ φ) → qL_St D G s H' Ax' ax' hX' Am' am' hM' o co' → qE_R F hX' hM' → ax' 0 = X → am' 0 = M → lv_has ls' 7 (qL_lv b X M o I) → W p l e R s m args below meth c H' [] (cells + cu) slots' Q (F0 m 1084 ls' [])) :
    W p l e R s m args below meth c H [] cells slots Q (F0 m 245 ls []) := by
  have hpt0 : qE_pt (cs nR nN nT gg [] ρ φ) = 2 * (16384 - nR) := rfl
  have hnR : nR ≤ 16384 := (ss_F (hD.1 u hD.2.2.2.1)).2.2.2.1
  have h21 : ∀ j, j < 40 → ψ 21 j = 0 := fun j hj => by
    have := hD.2.2.2.2.2.2.2.1.2.2.2.2 j hj
    rw [this, if_pos rfl]
  obtain ⟨v, hX1, ψ', rx, rm, hout⟩ := qE_sketch (sr := some 1000004) hF hnR hD.2.2.2.2.2.2.2.2.2.2.2.2.2.1 hD.2.2.2.2.2.2.2.2.2.2.2.2.2.2 h21 (xs (I + 1))
  obtain ⟨m1, m2, m3⟩ := qE_mw ψ
  subst h1 h2
  -- the old search aside
  have C4 := (qE_C4 S.2.1 hρ.1).narrow
  have CT := (qE_CT S.2.1 hρ.1).narrow
  have hl34 : (cs nR nN nT gg [] ρ φ).1.length = 34 := rfl
  have inj := fun (i j : Nat) (hi : i < 34) (hj : j < 34) (e : ax i = ax j) => qL_C.inj S.2.1 (i := i) (j := j) (by rw [hl34]; exact hi) (by rw [hl34]; exact hj) e
  have hT1 : ∀ q, (Ax q ∧ ∃ i, i < (qE_hT (cs nR nN nT gg [] ρ φ)).1.length ∧ q = qE_aT ax i) → ¬ (Ax q ∧ ∃ i, i < (c4 nR [] (sk_R (some 1000004)) φ).1.length ∧ q = qE_a4 ax i) := by
    rintro q ⟨_, i, hi, ei⟩ ⟨_, j, hj, ej⟩
    have hi' : i < 30 := hi
    have hj' : j < 4 := hj
    have e1 : qE_aT ax i = ax (i + 4) := by unfold qE_aT; rw [if_pos (by omega)]
    have e2 : qE_a4 ax j = ax j := by unfold qE_a4; rw [if_pos hj']
    have := inj (i + 4) j (by omega) (by omega) (by rw [← e1, ← e2, ← ei, ← ej])
    omega
  have hT2 : ∀ q, (Ax q ∧ ∃ i, i < (qE_hT (cs nR nN nT gg [] ρ φ)).1.length ∧ q = qE_aT ax i) → ¬ Am q := fun q hq => S.2.2.2.1 q hq.1
  have S4 : qL_St D G s H _ (qE_a4 ax) (c4 nR [] (sk_R (some 1000004)) φ) Am am (mw ψ) o co := ⟨S.1, C4, S.2.2.1, fun q hq => S.2.2.2.1 q hq.1, S.2.2.2.2.1, fun z => S.2.2.2.2.2.1 z.1, S.2.2.2.2.2.2.1, S.2.2.2.2.2.2.2⟩
  have a0 : qE_a4 ax 0 = ax 0 := rfl
  have hcx : ∀ a j, a < (c4 nR [] (sk_R (some 1000004)) φ).1.length → ((c4 nR [] (sk_R (some 1000004)) φ).2.2 a j).map (qL_ad (c4 nR [] (sk_R (some 1000004)) φ).1.length (qE_a4 ax) H.size K0 K1 (ax 30)) = ((c4 nR [] (sk_R (some 1000004)) φ).2.2 a j).map (qE_a4 ax) := by
    intro a j ha
    show (c4_R (sk_R (some 1000004)) a j).map (qL_ad 4 (qE_a4 ax) H.size K0 K1 (ax 30)) = (c4_R (sk_R (some 1000004)) a j).map (qE_a4 ax)
    have g1 := qE_30 1000004 a j (f := ax) (f' := qL_ad 4 (qE_a4 ax) H.size K0 K1 (ax 30)) (fun r hr => by rw [qL_ad_lo hr]; unfold qE_a4; rw [if_pos hr]) (by rw [qL_ad_S (by omega) (by omega)])
    have g2 := qE_30 1000004 a j (f := ax) (f' := qE_a4 ax) (fun r hr => by unfold qE_a4; rw [if_pos hr]) (by unfold qE_a4; rw [if_neg (by omega)])
    exact g1.symm.trans g2
  have hlen : hX1.1.length - (c4 nR [] (sk_R (some 1000004)) φ).1.length ≤ 31 ∧ ((qm_sl hX1.1 - qm_sl (c4 nR [] (sk_R (some 1000004)) φ).1 ≤ 8000) ∨ (∃ nS, nR < nS ∧ nS ≤ 16384 ∧ (∃ k, nS = 2 ^ k) ∧ qm_sl hX1.1 - qm_sl (c4 nR [] (sk_R (some 1000004)) φ).1 ≤ 8000 + nS)) := by
    rcases hout with ⟨rfl, _⟩ | ⟨n, cnt, φ3, ψ3, n1, n2, rfl, _⟩ | ⟨n, cnt, gg, nI, φ5, Vf, Hb, rk, fs, N, cc, n1, n2, n3, rfl, _⟩ | ⟨n, cnt, gg, nI, nS, φ5, Vf, Hb, rk, fs, N, cc, n1, n2, n3, n4, n5, n6, rfl, _⟩
    · exact ⟨by show 4 - 4 ≤ 31; omega, Or.inl (by omega)⟩
    · exact ⟨by show 23 - 4 ≤ 31; omega, Or.inl (qE_slw nR n cnt _ _ _ _ n1 n2)⟩
    · exact ⟨by show 34 - 4 ≤ 31; omega, Or.inl (qE_sls nR n cnt gg _ _ _ _ n1 n2 n3)⟩
    · exact ⟨by show 35 - 4 ≤ 31; omega, Or.inr ⟨nS, n4, n5, n6, qE_slk nR n cnt gg nS _ _ n1 n2 n3⟩⟩
  obtain ⟨hlen1, hlen2⟩ := hlen
  have hslx : slots + (qm_sl hX1.1 - qm_sl (c4 nR [] (sk_R (some 1000004)) φ).1) + (qm_sl (mw ψ').1 - qm_sl (mw ψ).1) ≤ R.slots := by
    show slots + (qm_sl hX1.1 - qm_sl (c4 nR [] (sk_R (some 1000004)) φ).1) + (qm_sl mw_K - qm_sl mw_K) ≤ R.slots
    rw [hpt0] at hSl
    rcases hlen2 with z | ⟨nS, z1, z2, z3, z⟩
    · omega
    · have := qE_pt2 hρ.2 z1 z3
      clear z3
      omega
  clear hlen2
  refine law_sketch3 (ax := qE_a4 ax) (am := am) (d := 200) (v := v) (hX1 := hX1) (hM1 := mw ψ') (Sx := ax 30) (xs := xs) CT hT1 hT2 hx hb hml hown hts hnw hK hZ hX hbl (by omega) hI hl S4 hcx (by show 4 ≤ 1000000; omega) m1 m2 rfl m3 rx (mo_sketch_n F 200 ψ (xs (I + 1)) (v, ψ') (by omega) rm) hRf hRl (by show cells + (hX1.1.length - (c4 nR [] (sk_R (some 1000004)) φ).1.length) + (22 - 22) ≤ R.cells; omega) hslx ?_
  intro H' Ax' Am' ax' am' S' T' U1 U2 e1 e2
  have e1' : ax' = qL_ad 4 (qE_a4 ax) H.size K0 K1 (ax 30) := e1
  have f4 : ∀ i, i < 4 → ax' i = ax i := fun i hi => by rw [e1', qL_ad_lo hi]; unfold qE_a4; rw [if_pos hi]
  have f30 : ax' 1000004 = ax 30 := by rw [e1', qL_ad_S (by omega) (by omega)]
  have mono : ∀ (hX' hM' : qm_H) (Ax'' : Nat → Prop) (ax'' : Nat → Nat), (slots + (qm_sl hX1.1 - qm_sl (c4 nR [] (sk_R (some 1000004)) φ).1)) + qE_pt hX' ≤ slots + su + qE_pt (cs nR nN nT gg [] ρ φ) → qL_St D G s H' Ax'' ax'' hX' Am' am' hM' o co → qE_R F hX' hM' → ax'' 0 = ax 0 → W p l e R s m args below meth c H' [] (cells + (hX1.1.length - (c4 nR [] (sk_R (some 1000004)) φ).1.length) + ((mw ψ').1.length - (mw ψ).1.length)) (slots + (qm_sl hX1.1 - qm_sl (c4 nR [] (sk_R (some 1000004)) φ).1) + (qm_sl (mw ψ').1 - qm_sl (mw ψ).1)) Q (F0 m 1084 ls []) := by
    intro hX' hM' Ax'' ax'' k1 k2 k3 k4
    refine qL_mono (by show cells + (hX1.1.length - (c4 nR [] (sk_R (some 1000004)) φ).1.length) + (22 - 22) ≤ cells + cu; omega) (by show slots + (qm_sl hX1.1 - qm_sl (c4 nR [] (sk_R (some 1000004)) φ).1) + (qm_sl mw_K - qm_sl mw_K) ≤ slots + (qm_sl hX1.1 - qm_sl (c4 nR [] (sk_R (some 1000004)) φ).1); omega) (kk H' Ax'' Am' ax'' am' hX' hM' co ls _ k1 k2 k3 k4 e2 hl)
  have dis : ∀ q, Ax' q → ¬ (Ax q ∧ ∃ i, i < (qE_hT (cs nR nN nT gg [] ρ φ)).1.length ∧ q = qE_aT ax i) := fun q hq z => U1 q z hq
  have ho : ∀ q, (Ax' q ∨ (Ax q ∧ ∃ i, i < (qE_hT (cs nR nN nT gg [] ρ φ)).1.length ∧ q = qE_aT ax i)) → ¬ Am' q := fun q hq => hq.elim (S'.2.2.2.1 q) (U2 q)
  have hoo : ¬ (Ax' o ∨ (Ax o ∧ ∃ i, i < (qE_hT (cs nR nN nT gg [] ρ φ)).1.length ∧ o = qE_aT ax i)) := fun z => z.elim S'.2.2.2.2.2.1 (fun y => S.2.2.2.2.2.1 y.1)
  rcases hout with ⟨rfl, rfl⟩ | ⟨n, cnt, φ3, ψ3, n1, n2, rfl, rfl, n3, n4⟩ | ⟨n, cnt, gg', nI', φ5, Vf', Hb', rk', fs', N', cc', n1, n2, n3, rfl, n4, n5⟩ | ⟨n, cnt, gg', nI', nS, φ5, Vf', Hb', rk', fs', N', cc', n1, n2, n3, n4, n5, n6, rfl, n7, n8⟩
  · have B := qE_back (φ1 := φ) S'.2.1 T' dis hρ.1 f4 f30 (fun i hi => by
      match i, hi with
      | 0, _ => rfl
      | 1, _ => rfl
      | 2, _ => rfl
      | 3, _ => rfl
      | i + 4, h => exact absurd h (by omega)) rfl (fun i j _ => rfl)
    have eφ : (fun a j => if a < 4 then φ a j else φ a j) = φ := by
      funext a j
      split <;> rfl
    rw [eφ] at B
    refine mono _ _ _ _ ?_ (qE_St S' B ho hoo) (Or.inr ⟨nR, nN, nT, gg, nI, ρ, φ, _, φ0, ψ0, Vf, Hb, rk, u, nK, oo, ss, tn, pn, kp, cur, fs, N, cc, rfl, rfl, hρ, sb_D.th hD 0, hQ⟩) rfl
    omega
  · have B := qE_back (φ1 := φ3) S'.2.1 T' dis hρ.1 f4 f30 (fun i hi => by
      match i, hi with
      | 0, _ => rfl
      | 1, _ => rfl
      | 2, _ => rfl
      | 3, _ => rfl
      | i + 4, h => exact absurd h (by omega)) rfl (fun i j hi => qE_lo3 nR n cnt _ φ3 hi j)
    refine mono _ _ _ _ ?_ (qE_St S' B ho hoo) (Or.inr ⟨nR, nN, nT, gg, nI, ρ, _, _, φ0, ψ0, Vf, Hb, rk, u, nK, oo, ss, 0, pn, kp, cur, fs, N, cc, rfl, rfl, hρ, sb_D.ft hD n3 (fun a j ha => ?_) (fun a j ha => ?_), hQ⟩) rfl
    · have : qE_pt (cs nR nN nT gg [] ρ (fun a j => if a < 4 then φ3 a j else φ a j)) = qE_pt (cs nR nN nT gg [] ρ φ) := rfl
      have z := qE_slw nR n cnt (sk_r3 (some 1000004)) (sk_R (some 1000004)) φ3 φ n1 n2
      omega
    · show (if a < 4 then φ3 a j else φ a j) = _
      rw [if_pos ha]
      exact n4 a j ha
    · show (if a < 4 then φ3 a j else φ a j) = _
      rw [if_neg (by omega)]
  · refine mono _ _ _ _ ?_ S' (Or.inr ⟨nR, n, cnt, gg', nI', sk_r7_0 (some 1000004), sk_f7_0 nR φ5, ψ', _, _, Vf', Hb', rk', 0, 0, 0, 0, 0, _, _, _, fs', N', cc', rfl, rfl, ⟨qE_c70 _, hρ.2⟩, n4, n5⟩) (f4 0 (by omega))
    have : qE_pt (cs nR n cnt gg' [] (sk_r7_0 (some 1000004)) (sk_f7_0 nR φ5)) = qE_pt (cs nR nN nT gg [] ρ φ) := rfl
    have z := qE_sls nR n cnt gg' (sk_r7_0 (some 1000004)) (sk_R (some 1000004)) (sk_f7_0 nR φ5) φ n1 n2 n3
    omega
  · refine mono _ _ _ _ ?_ (qE_St S' (qE_s71 S'.2.1) S'.2.2.2.1 S'.2.2.2.2.2.1) (Or.inr ⟨nS, n, cnt, gg', nI', qE_ρ1 (some 1000004), _, ψ', _, _, Vf', Hb', rk', 0, 0, 0, 0, 0, _, _, _, fs', N', cc', rfl, rfl, ⟨qE_c71 _, Or.inr n6⟩, n7, n8⟩) (f4 0 (by omega))
    have e' : qE_pt (cs nS n cnt gg' [] (qE_ρ1 (some 1000004)) (fun a j => sk_f7_1 nS φ5 (sk_s a) j)) = 2 * (16384 - nS) := rfl
    have z' := qE_slk nR n cnt gg' nS (sk_R (some 1000004)) φ n1 n2 n3
    have := qE_pt2 hρ.2 n4 n6
    clear n6
    rw [e', hpt0]
    show slots + (qm_sl (qE_K35 nR n cnt gg' nS) - qm_sl (c4 nR [] (sk_R (some 1000004)) φ).1) + 2 * (16384 - nS) ≤ slots + su + 2 * (16384 - nR)
    omega
theorem case_sketch2 (hx : p.tables.exec = Jvm.exec) (hb : c.code = cL_law) (hml : c.maxLocals = 7) (hown : s.vm.findClass RL = some m.cls) (hts : ∀ w ∈ qm_T, w.before args s = true) (hnw : qm_nw s) (hK : va_K D vwCl (qm_tys G) s) (hZ : qL_Z K0 K1 s) (hX : va_X b L xs s s.heap) (hbl : b < s.heap.size) (hL : L ≤ 3072) (hRf : 200 + 2 ≤ R.frames) (hRl : 40 * 200 + 80 ≤ R.locals) (hF : 200000 ≤ F) (hcu : 31 ≤ cu) (hsu : 8000 ≤ su) : qE_case p l e R s m args below meth c Q D G b L X M o cu su (qE_R F) 245 := by
  intro I H Ax Am ax am hX0 hM0 co cells slots ls hI S hR h1 h2 hl hC hSl kk
  rcases hR with ⟨nR, φ, ψ, tn, rfl, rfl, hA, hn⟩ | ⟨nR, nN, nT, gg, nI, ρ, φ, ψ, φ0, ψ0, Vf, Hb, rk, u, nK, oo, ss, tn, pn, kp, cur, fs, N, cc, rfl, rfl, hρ, hD, hQ⟩
  · exact case_skA hx hb hml hown hts hnw hK hZ hX hbl hL hRf hRl hF hcu hsu hI S hA hn h1 h2 hl hC hSl kk
  · exact case_skB hx hb hml hown hts hnw hK hZ hX hbl hL hRf hRl hF hcu hsu hI S hρ hD hQ h1 h2 hl hC hSl kk
end QE9
