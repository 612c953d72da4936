/-! THE LAW'S SKETCH, the case, without and with a sketch before -/
section QE7
variable {p : Program} {l : Launch} {e : Env} {R : Room} {s : State} {m : MethodId} {args : Array Value} {below : List Frame} {meth : Method} {c : Code} {Q : State → Prop}
variable {D : va_G} {G : ClassId × ClassId × ClassId} {o b L X M cu su F K0 K1 : Nat} {xs : Nat → Int32}
theorem qE_St {H : Heap} {Ax Ax' Am : Nat → Prop} {ax ax' am : Nat → Nat} {hX hX' hM : qm_H} {co : Cell} (S : qL_St D G s H Ax ax hX Am am hM o co) (C : qL_C D G s.heap.size H Ax' ax' hX') (h1 : ∀ q, Ax' q → ¬ Am q) (h2 : ¬ Ax' o) : qL_St D G s H Ax' ax' hX' Am am hM o co :=
  ⟨S.1, C, S.2.2.1, h1, S.2.2.2.2.1, h2, S.2.2.2.2.2.2.1, S.2.2.2.2.2.2.2⟩
set_option maxRecDepth 100000 in
theorem case_skA (hx : p.tables.exec = Jvm.exec) (hb : c.code = cL_law) (hml : c.maxLocals = 7) (hown : s.vm.findClass RL = some m.cls) (hts : ∀ w ∈ qm_T, w.before args s = true) (hnw : qm_nw s) (hK : va_K D vwCl (qm_tys G) s) (hZ : qL_Z K0 K1 s) (hX : va_X b L xs s s.heap) (hbl : b < s.heap.size) (hL : L ≤ 3072) (hRf : 200 + 2 ≤ R.frames) (hRl : 40 * 200 + 80 ≤ R.locals) (hF : 200000 ≤ F) (hcu : 31 ≤ cu) (hsu : 8000 ≤ su)
    {I : Nat} {H : Heap} {Ax Am : Nat → Prop} {ax am : Nat → Nat} {nR tn : Nat} {φ ψ : qm_F} {co : Cell} {cells slots : Nat} {ls : Array Slot} (hI : I + 6 ≤ L) (S : qL_St D G s H Ax ax (c0 nR φ) Am am (mw ψ) o co) (hA : sA_D tn φ ψ) (hn : nR ≤ 16384 ∧ qE_pw nR) (h1 : ax 0 = X) (h2 : am 0 = M) (hl : lv_has ls 7 (qL_lv b X M o I)) (hC : cells + cu ≤ R.cells) (hSl : slots + su + qE_pt (c0 nR φ) ≤ R.slots)
    (kk : ∀ (H' : Heap) (Ax' Am' : Nat → Prop) (ax' am' : Nat → Nat) (hX' hM' : qm_H) (co' : Cell) (ls' : Array Slot) (slots' : Nat), slots' + qE_pt hX' ≤ slots + su + qE_pt (c0 nR φ) → qL_St D G s H' Ax' ax' hX' Am' am' hM' o co' → qE_R F hX' hM' → ax' 0 = X → am' 0 = M → lv_has ls' 7 (qL_lv b X M o I) → W p l e R s m args below meth c H' [] (cells + cu) slots' Q (F0 m 1084 ls' [])) :
    W p l e R s m args below meth c H [] cells slots Q (F0 m 245 ls []) := by
  have hX0 : c0 nR φ = c4 nR [] (sk_R none) φ := by unfold c0; rw [qE_c0R]
  obtain ⟨v, hX1, ψ', rx, rm, hout⟩ := qE_sketch (sr := none) hF hn.1 hA.2.1 hA.2.2.1 hA.2.2.2 (xs (I + 1))
  rw [← hX0] at rx
  obtain ⟨x1, x2, x3⟩ := qE_c0 nR φ
  obtain ⟨m1, m2, m3⟩ := qE_mw ψ
  subst h1 h2
  have hpt0 : qE_pt (c0 nR φ) = 2 * (16384 - nR) := rfl
  have hlen : hX1.1.length - (c0 nR φ).1.length ≤ 31 ∧ ((qm_sl hX1.1 - qm_sl (c0 nR φ).1 ≤ 8000) ∨ (∃ nS, nR < nS ∧ nS ≤ 16384 ∧ (∃ k, nS = 2 ^ k) ∧ qm_sl hX1.1 - qm_sl (c0 nR φ).1 ≤ 8000 + nS)) := by
    rcases hout with ⟨rfl, _⟩ | ⟨n, cnt, φ3, ψ3, n1, n2, rfl, _⟩ | ⟨n, cnt, gg, nI, φ5, Vf, Hb, rk, fs, N, cc, n1, n2, n3, rfl, _⟩ | ⟨n, cnt, gg, nI, nS, φ5, Vf, Hb, rk, fs, N, cc, n1, n2, n3, n4, n5, n6, rfl, _⟩
    · exact ⟨by show 4 - 4 ≤ 31; omega, Or.inl (by show qm_sl (c4 nR [] (sk_R none) φ).1 - qm_sl (c4 nR [] (sk_R none) φ).1 ≤ 8000; omega)⟩
    · exact ⟨by show 23 - 4 ≤ 31; omega, Or.inl (qE_slw nR n cnt _ _ _ _ n1 n2)⟩
    · exact ⟨by show 34 - 4 ≤ 31; omega, Or.inl (qE_sls nR n cnt gg _ _ _ _ n1 n2 n3)⟩
    · exact ⟨by show 35 - 4 ≤ 31; omega, Or.inr ⟨nS, n4, n5, n6, qE_slk nR n cnt gg nS _ _ n1 n2 n3⟩⟩
  obtain ⟨hlen1, hlen2⟩ := hlen
  have hslx : slots + (qm_sl hX1.1 - qm_sl (c0 nR φ).1) + (qm_sl (mw ψ').1 - qm_sl (mw ψ).1) ≤ R.slots := by
    show slots + (qm_sl hX1.1 - qm_sl (c0 nR φ).1) + (qm_sl mw_K - qm_sl mw_K) ≤ R.slots
    rw [hpt0] at hSl
    rcases hlen2 with z | ⟨nS, z1, z2, z3, z⟩
    · omega
    · have := qE_pt2 hn.2 z1 z3
      clear z3
      omega
  clear hlen2
  refine law_sketch (d := 200) (v := v) (hX1 := hX1) (hM1 := mw ψ') (Sx := 0) (xs := xs) hx hb hml hown hts hnw hK hZ hX hbl (by omega) hI hl S (qL_closed x1) x2 m1 m2 x3 m3 rx (mo_sketch_n F 200 ψ (xs (I + 1)) (v, ψ') (by omega) rm) hRf hRl (by show cells + (hX1.1.length - (c0 nR φ).1.length) + (22 - 22) ≤ R.cells; omega) hslx ?_
  intro H' Ax' Am' ax' am' S' e1 e2
  have f1 : ax' 0 = ax 0 := by rw [e1]; exact qL_ad_lo (List.getElem?_eq_some_iff.mp x3).1
  have mono : ∀ (hX' hM' : qm_H) (Ax'' : Nat → Prop) (ax'' : Nat → Nat), (slots + (qm_sl hX1.1 - qm_sl (c0 nR φ).1)) + qE_pt hX' ≤ slots + su + qE_pt (c0 nR φ) → qL_St D G s H' Ax'' ax'' hX' Am' am' hM' o co → qE_R F hX' hM' → ax'' 0 = ax 0 → W p l e R s m args below meth c H' [] (cells + (hX1.1.length - (c0 nR φ).1.length) + ((mw ψ').1.length - (mw ψ).1.length)) (slots + (qm_sl hX1.1 - qm_sl (c0 nR φ).1) + (qm_sl (mw ψ').1 - qm_sl (mw ψ).1)) Q (F0 m 1084 ls []) := by
    intro hX' hM' Ax'' ax'' k1 k2 k3 k4
    refine qL_mono (by show cells + (hX1.1.length - (c0 nR φ).1.length) + (22 - 22) ≤ cells + cu; omega) (by show slots + (qm_sl hX1.1 - qm_sl (c0 nR φ).1) + (qm_sl mw_K - qm_sl mw_K) ≤ slots + (qm_sl hX1.1 - qm_sl (c0 nR φ).1); omega) (kk H' Ax'' Am' ax'' am' hX' hM' co ls _ k1 k2 k3 k4 e2 hl)
  rcases hout with ⟨rfl, rfl⟩ | ⟨n, cnt, φ3, ψ3, n1, n2, rfl, rfl, n3, n4⟩ | ⟨n, cnt, gg, nI, φ5, Vf, Hb, rk, fs, N, cc, n1, n2, n3, rfl, n4, n5⟩ | ⟨n, cnt, gg, nI, nS, φ5, Vf, Hb, rk, fs, N, cc, n1, n2, n3, n4, n5, n6, rfl, n7, n8⟩
  · rw [← hX0] at S'
    refine mono _ _ _ _ ?_ S' (Or.inl ⟨nR, φ, qm_u ψ 0 0 0, tn, rfl, rfl, hA.t 0, hn⟩) f1
    rw [← hX0]
    omega
  · refine mono (c0 nR φ3) _ _ _ ?_ (qE_St S' (qE_s4 S'.2.1) S'.2.2.2.1 S'.2.2.2.2.2.1) (Or.inl ⟨nR, φ3, _, 0, rfl, rfl, sA_D.ft hA n3 n4, hn⟩) f1
    have : qE_pt (c0 nR φ3) = qE_pt (c0 nR φ) := rfl
    have z := qE_slw nR n cnt (sk_r3 none) c0_R φ3 φ n1 n2
    have z' : qm_sl (cw nR n cnt [] (sk_r3 none) φ3).1 - qm_sl (c0 nR φ).1 ≤ 8000 := z
    omega
  · refine mono _ _ _ _ ?_ S' (Or.inr ⟨nR, n, cnt, gg, nI, sk_r7_0 none, sk_f7_0 nR φ5, ψ', _, _, Vf, Hb, rk, 0, 0, 0, 0, 0, _, _, _, fs, N, cc, rfl, rfl, ⟨qE_c70 none, hn.2⟩, n4, n5⟩) f1
    have : qE_pt (cs nR n cnt gg [] (sk_r7_0 none) (sk_f7_0 nR φ5)) = qE_pt (c0 nR φ) := rfl
    have z' : qm_sl (cs nR n cnt gg [] (sk_r7_0 none) (sk_f7_0 nR φ5)).1 - qm_sl (c0 nR φ).1 ≤ 8000 := qE_sls nR n cnt gg _ _ _ _ n1 n2 n3
    omega
  · refine mono _ _ _ _ ?_ (qE_St S' (qE_s71 S'.2.1) S'.2.2.2.1 S'.2.2.2.2.2.1) (Or.inr ⟨nS, n, cnt, gg, nI, qE_ρ1 none, _, ψ', _, _, Vf, Hb, rk, 0, 0, 0, 0, 0, _, _, _, fs, N, cc, rfl, rfl, ⟨qE_c71 none, Or.inr n6⟩, n7, n8⟩) f1
    have e' : qE_pt (cs nS n cnt gg [] (qE_ρ1 none) (fun a j => sk_f7_1 nS φ5 (sk_s a) j)) = 2 * (16384 - nS) := rfl
    have z' : qm_sl (qE_K35 nR n cnt gg nS) - qm_sl (c0 nR φ).1 ≤ 8000 + nS := qE_slk nR n cnt gg nS _ _ n1 n2 n3
    have := qE_pt2 hn.2 n4 n6
    clear n6
    rw [e', hpt0]
    show slots + (qm_sl (qE_K35 nR n cnt gg nS) - qm_sl (c0 nR φ).1) + 2 * (16384 - nS) ≤ slots + su + 2 * (16384 - nR)
    omega
end QE7
