/-! THE RELATION of both objects' worlds, and what each call keeps of it (by program: wip/whole/gen_rel.py) -/
def qE_clo (ρ : Nat → Nat → Option Nat) : Prop := (∀ a j r, a < 34 → c4_R (ct_R (cw_R (cr_R (cs_R ρ)))) a j = some r → r < 34) ∧ ∀ a j, a < 4 → c4_R (ct_R (cw_R (cr_R (cs_R ρ)))) a j = c4_R (sk_R (some 30)) a j
def qE_pw (n : Nat) : Prop := n = 0 ∨ ∃ k, n = 2 ^ k
def qE_A (hX hM : qm_H) : Prop := ∃ (nR : Nat) (φ ψ : qm_F) (tn : Nat), hX = c0 nR φ ∧ hM = mw ψ ∧ sA_D tn φ ψ ∧ nR ≤ 16384 ∧ qE_pw nR
def qE_B (F : Nat) (hX hM : qm_H) : Prop := ∃ (nR nN nT gg nI : Nat) (ρ : Nat → Nat → Option Nat) (φ ψ φ0 ψ0 : qm_F) (Vf : Nat → Nat → Nat → Nat) (Hb : List Nat) (rk : Nat → Nat) (u nK o s tn : Nat) (pn : Nat → Int32) (kp : Nat → Nat) (cur : Int32) (fs N : Nat) (c : Nat → Nat), hX = cs nR nN nT gg [] ρ φ ∧ hM = mw ψ ∧ (qE_clo ρ ∧ qE_pw nR) ∧ sb_D F nR nN nT gg nI φ0 ψ0 Vf Hb rk u nK o s tn pn kp cur φ ψ ∧ sk_Q F nR nN nT gg nI φ0 ψ0 Hb fs N c
def qE_R (F : Nat) (hX hM : qm_H) : Prop := qE_A hX hM ∨ qE_B F hX hM
section QER
variable {F : Nat} {hX hM : qm_H}
theorem oe_has (a1 : Int32) (h : qE_R F hX hM) : qS_op 200 3 3 77 2 [a1] (qE_R F) hX hM := by
  rcases h with ⟨nR, φ, ψ, tn, rfl, rfl, hA, hn⟩ | ⟨nR, nN, nT, gg, nI, ρ, φ, ψ, φ0, ψ0, Vf, Hb, rk, u, nK, o, s, tn, pn, kp, cur, fs, N, c, rfl, rfl, hρ, hD, hQ⟩
  · obtain ⟨v, ψ', e1, e2, h'⟩ := sn_has (F := F) (nR := nR) hA a1
    exact ⟨v, c0 nR φ, mw ψ', s0_has_n F 200 nR φ a1 v (by omega) e1, mo_has_n F 200 ψ a1 (v, ψ') (by omega) e2, Or.inl ⟨nR, φ, ψ', tn, rfl, rfl, h', hn⟩, rfl, rfl⟩
  · obtain ⟨v, ψ', e1, e2, h'⟩ := so_has hQ.1 hD a1
    exact ⟨v, _, mw ψ', sf_has_n F 200 nR nN nT gg [] _ φ a1 v (by omega) e1, mo_has_n F 200 ψ a1 (v, ψ') (by omega) e2, Or.inr ⟨nR, nN, nT, gg, nI, ρ, φ, ψ', φ0, ψ0, Vf, Hb, rk, u, nK, o, s, tn, pn, kp, cur, fs, N, c, rfl, rfl, hρ, h', hQ⟩, rfl, rfl⟩
theorem oe_hole (a1 a2 : Int32) (h : qE_R F hX hM) : qS_op 200 4 3 87 3 [a1, a2] (qE_R F) hX hM := by
  rcases h with ⟨nR, φ, ψ, tn, rfl, rfl, hA, hn⟩ | ⟨nR, nN, nT, gg, nI, ρ, φ, ψ, φ0, ψ0, Vf, Hb, rk, u, nK, o, s, tn, pn, kp, cur, fs, N, c, rfl, rfl, hρ, hD, hQ⟩
  · obtain ⟨v, ψ', e1, e2, h'⟩ := sn_hole (F := F) (nR := nR) hA a1 a2
    exact ⟨v, c0 nR φ, mw ψ', s0_hole_n F 200 nR φ a1 a2 v (by omega) e1, mo_hole_n F 200 ψ a1 a2 (v, ψ') (by omega) e2, Or.inl ⟨nR, φ, ψ', tn, rfl, rfl, h', hn⟩, rfl, rfl⟩
  · obtain ⟨v, ψ', e1, e2, h'⟩ := so_hole hQ.1 hD a1 a2
    exact ⟨v, _, mw ψ', sf_hole_n F 200 nR nN nT gg [] _ φ a1 a2 v (by omega) e1, mo_hole_n F 200 ψ a1 a2 (v, ψ') (by omega) e2, Or.inr ⟨nR, nN, nT, gg, nI, ρ, φ, ψ', φ0, ψ0, Vf, Hb, rk, u, nK, o, s, tn, pn, kp, cur, fs, N, c, rfl, rfl, hρ, h', hQ⟩, rfl, rfl⟩
theorem oe_value (a1 a2 : Int32) (h : qE_R F hX hM) : qS_op 200 5 3 88 3 [a1, a2] (qE_R F) hX hM := by
  rcases h with ⟨nR, φ, ψ, tn, rfl, rfl, hA, hn⟩ | ⟨nR, nN, nT, gg, nI, ρ, φ, ψ, φ0, ψ0, Vf, Hb, rk, u, nK, o, s, tn, pn, kp, cur, fs, N, c, rfl, rfl, hρ, hD, hQ⟩
  · obtain ⟨v, ψ', e1, e2, h'⟩ := sn_value (F := F) (nR := nR) hA a1 a2
    exact ⟨v, c0 nR φ, mw ψ', s0_value_n F 200 nR φ a1 a2 v (by omega) e1, mo_value_n F 200 ψ a1 a2 (v, ψ') (by omega) e2, Or.inl ⟨nR, φ, ψ', tn, rfl, rfl, h', hn⟩, rfl, rfl⟩
  · obtain ⟨v, ψ', e1, e2, h'⟩ := so_value hD a1 a2
    exact ⟨v, _, mw ψ', sf_value_n F 200 nR nN nT gg [] _ φ a1 a2 v (by omega) e1, mo_value_n F 200 ψ a1 a2 (v, ψ') (by omega) e2, Or.inr ⟨nR, nN, nT, gg, nI, ρ, φ, ψ', φ0, ψ0, Vf, Hb, rk, u, nK, o, s, tn, pn, kp, cur, fs, N, c, rfl, rfl, hρ, h', hQ⟩, rfl, rfl⟩
theorem oe_cost (a1 : Int32) (h : qE_R F hX hM) : qS_op 200 6 2 89 2 [a1] (qE_R F) hX hM := by
  rcases h with ⟨nR, φ, ψ, tn, rfl, rfl, hA, hn⟩ | ⟨nR, nN, nT, gg, nI, ρ, φ, ψ, φ0, ψ0, Vf, Hb, rk, u, nK, o, s, tn, pn, kp, cur, fs, N, c, rfl, rfl, hρ, hD, hQ⟩
  · obtain ⟨v, ψ', e1, e2, h'⟩ := sn_cost (F := F) (nR := nR) hA a1
    exact ⟨v, c0 nR φ, mw ψ', s0_cost_n F 200 nR φ a1 v (by omega) e1, mo_cost_n F 200 ψ a1 (v, ψ') (by omega) e2, Or.inl ⟨nR, φ, ψ', tn, rfl, rfl, h', hn⟩, rfl, rfl⟩
  · obtain ⟨v, ψ', e1, e2, h'⟩ := so_cost hQ.1 hD a1
    exact ⟨v, _, mw ψ', sf_cost_n F 200 nR nN nT gg [] _ φ a1 v (by omega) e1, mo_cost_n F 200 ψ a1 (v, ψ') (by omega) e2, Or.inr ⟨nR, nN, nT, gg, nI, ρ, φ, ψ', φ0, ψ0, Vf, Hb, rk, u, nK, o, s, tn, pn, kp, cur, fs, N, c, rfl, rfl, hρ, h', hQ⟩, rfl, rfl⟩
theorem oe_verdict (a1 a2 : Int32) (h : qE_R F hX hM) : qS_op 200 7 3 105 3 [a1, a2] (qE_R F) hX hM := by
  rcases h with ⟨nR, φ, ψ, tn, rfl, rfl, hA, hn⟩ | ⟨nR, nN, nT, gg, nI, ρ, φ, ψ, φ0, ψ0, Vf, Hb, rk, u, nK, o, s, tn, pn, kp, cur, fs, N, c, rfl, rfl, hρ, hD, hQ⟩
  · obtain ⟨v, ψ', e1, e2, h'⟩ := sn_verdict (F := F) (nR := nR) hA a1 a2
    exact ⟨v, c0 nR φ, mw ψ', s0_verdict_n F 200 nR φ a1 a2 v (by omega) e1, mo_verdict_n F 200 ψ a1 a2 (v, ψ') (by omega) e2, Or.inl ⟨nR, φ, ψ', tn, rfl, rfl, h', hn⟩, rfl, rfl⟩
  · obtain ⟨v, φ', ψ', e1, e2, h'⟩ := so_verdict hD a1 a2
    exact ⟨v, _, mw ψ', sf_verdict_n F 200 nR nN nT gg [] _ φ a1 a2 (v, φ') (by omega) e1, mo_verdict_n F 200 ψ a1 a2 (v, ψ') (by omega) e2, Or.inr ⟨nR, nN, nT, gg, nI, ρ, φ', ψ', φ0, ψ0, Vf, Hb, rk, u, nK, o, s, tn, pn, kp, cur, fs, N, c, rfl, rfl, hρ, h', hQ⟩, rfl, rfl⟩
theorem oe_steps (a1 a2 : Int32) (h : qE_R F hX hM) : qS_op 200 8 3 106 4 [a1, a2] (qE_R F) hX hM := by
  rcases h with ⟨nR, φ, ψ, tn, rfl, rfl, hA, hn⟩ | ⟨nR, nN, nT, gg, nI, ρ, φ, ψ, φ0, ψ0, Vf, Hb, rk, u, nK, o, s, tn, pn, kp, cur, fs, N, c, rfl, rfl, hρ, hD, hQ⟩
  · obtain ⟨v, ψ', e1, e2, h'⟩ := sn_steps (F := F) (nR := nR) hA a1 a2
    exact ⟨v, c0 nR φ, mw ψ', s0_steps_n F 200 nR φ a1 a2 v (by omega) e1, mo_steps2_n F 200 ψ a1 a2 (v, ψ') (by omega) e2, Or.inl ⟨nR, φ, ψ', tn, rfl, rfl, h', hn⟩, rfl, rfl⟩
  · obtain ⟨v, φ', ψ', e1, e2, h'⟩ := so_steps hQ.1 hD a1 a2
    exact ⟨v, _, mw ψ', sf_steps_n F 200 nR nN nT gg [] _ φ a1 a2 (v, φ') (by omega) e1, mo_steps2_n F 200 ψ a1 a2 (v, ψ') (by omega) e2, Or.inr ⟨nR, nN, nT, gg, nI, ρ, φ', ψ', φ0, ψ0, Vf, Hb, rk, u, nK, o, s, tn, pn, kp, cur, fs, N, c, rfl, rfl, hρ, h', hQ⟩, rfl, rfl⟩
theorem oe_ends (a1 a2 a3 : Int32) (h : qE_R F hX hM) : qS_op 200 9 5 107 4 [a1, a2, a3] (qE_R F) hX hM := by
  rcases h with ⟨nR, φ, ψ, tn, rfl, rfl, hA, hn⟩ | ⟨nR, nN, nT, gg, nI, ρ, φ, ψ, φ0, ψ0, Vf, Hb, rk, u, nK, o, s, tn, pn, kp, cur, fs, N, c, rfl, rfl, hρ, hD, hQ⟩
  · obtain ⟨v, ψ', e1, e2, h'⟩ := sn_ends (F := F) (nR := nR) hA a1 a2 a3
    exact ⟨v, c0 nR φ, mw ψ', s0_ends_n F 200 nR φ a1 a2 a3 v (by omega) e1, mo_ends_n F 200 ψ a1 a2 a3 (v, ψ') (by omega) e2, Or.inl ⟨nR, φ, ψ', tn, rfl, rfl, h', hn⟩, rfl, rfl⟩
  · obtain ⟨v, φ', ψ', e1, e2, h'⟩ := so_ends hQ.1 hD a1 a2 a3
    exact ⟨v, _, mw ψ', sf_ends_n F 200 nR nN nT gg [] _ φ a1 a2 a3 (v, φ') (by omega) e1, mo_ends_n F 200 ψ a1 a2 a3 (v, ψ') (by omega) e2, Or.inr ⟨nR, nN, nT, gg, nI, ρ, φ', ψ', φ0, ψ0, Vf, Hb, rk, u, nK, o, s, tn, pn, kp, cur, fs, N, c, rfl, rfl, hρ, h', hQ⟩, rfl, rfl⟩
theorem oe_refuter (a1 : Int32) (h : qE_R F hX hM) : qS_op 200 10 2 110 2 [a1] (qE_R F) hX hM := by
  rcases h with ⟨nR, φ, ψ, tn, rfl, rfl, hA, hn⟩ | ⟨nR, nN, nT, gg, nI, ρ, φ, ψ, φ0, ψ0, Vf, Hb, rk, u, nK, o, s, tn, pn, kp, cur, fs, N, c, rfl, rfl, hρ, hD, hQ⟩
  · obtain ⟨v, ψ', e1, e2, h'⟩ := sn_refuter (F := F) (nR := nR) hA a1
    exact ⟨v, c0 nR φ, mw ψ', s0_refuter_n F 200 nR φ a1 v (by omega) e1, mo_refuter_n F 200 ψ a1 (v, ψ') (by omega) e2, Or.inl ⟨nR, φ, ψ', tn, rfl, rfl, h', hn⟩, rfl, rfl⟩
  · obtain ⟨v, φ', ψ', e1, e2, h'⟩ := so_refuter hD a1
    exact ⟨v, _, mw ψ', sf_refuter_n F 200 nR nN nT gg [] _ φ a1 (v, φ') (by omega) e1, mo_refuter_n F 200 ψ a1 (v, ψ') (by omega) e2, Or.inr ⟨nR, nN, nT, gg, nI, ρ, φ', ψ', φ0, ψ0, Vf, Hb, rk, u, nK, o, s, tn, pn, kp, cur, fs, N, c, rfl, rfl, hρ, h', hQ⟩, rfl, rfl⟩
theorem oe_guess (h : qE_R F hX hM) : qS_op 200 11 1 117 1 [] (qE_R F) hX hM := by
  rcases h with ⟨nR, φ, ψ, tn, rfl, rfl, hA, hn⟩ | ⟨nR, nN, nT, gg, nI, ρ, φ, ψ, φ0, ψ0, Vf, Hb, rk, u, nK, o, s, tn, pn, kp, cur, fs, N, c, rfl, rfl, hρ, hD, hQ⟩
  · obtain ⟨v, ψ', e1, e2, h'⟩ := sn_guess (F := F) (nR := nR) hA
    exact ⟨v, c0 nR φ, mw ψ', s0_guess_n F 200 nR φ v (by omega) e1, mo_guess_n F 200 ψ (v, ψ') (by omega) e2, Or.inl ⟨nR, φ, ψ', tn, rfl, rfl, h', hn⟩, rfl, rfl⟩
  · obtain ⟨v, φ', ψ', e1, e2, u, o, pn, nK, s, kp, cur, h'⟩ := so_guess hD
    exact ⟨v, _, mw ψ', sf_guess_n F 200 nR nN nT gg [] _ φ (v, φ') (by omega) e1, mo_guess_n F 200 ψ (v, ψ') (by omega) e2, Or.inr ⟨nR, nN, nT, gg, nI, ρ, φ', ψ', φ0, ψ0, Vf, Hb, rk, u, nK, o, s, tn, pn, kp, cur, fs, N, c, rfl, rfl, hρ, h', hQ⟩, rfl, rfl⟩
theorem oe_check (h : qE_R F hX hM) : qS_op 200 12 1 121 1 [] (qE_R F) hX hM := by
  rcases h with ⟨nR, φ, ψ, tn, rfl, rfl, hA, hn⟩ | ⟨nR, nN, nT, gg, nI, ρ, φ, ψ, φ0, ψ0, Vf, Hb, rk, u, nK, o, s, tn, pn, kp, cur, fs, N, c, rfl, rfl, hρ, hD, hQ⟩
  · obtain ⟨v, ψ', e1, e2, h'⟩ := sn_check (F := F) (nR := nR) hA
    exact ⟨v, c0 nR φ, mw ψ', s0_check_n F 200 nR φ v (by omega) e1, mo_check_n F 200 ψ (v, ψ') (by omega) e2, Or.inl ⟨nR, φ, ψ', tn, rfl, rfl, h', hn⟩, rfl, rfl⟩
  · obtain ⟨v, φ', ψ', e1, e2, u, o, pn, nK, s, kp, cur, h'⟩ := so_check hD
    exact ⟨v, _, mw ψ', sf_check_n F 200 nR nN nT gg [] _ φ (v, φ') (by omega) e1, mo_check_n F 200 ψ (v, ψ') (by omega) e2, Or.inr ⟨nR, nN, nT, gg, nI, ρ, φ', ψ', φ0, ψ0, Vf, Hb, rk, u, nK, o, s, tn, pn, kp, cur, fs, N, c, rfl, rfl, hρ, h', hQ⟩, rfl, rfl⟩
theorem oe_go (a1 : Int32) (h : qE_R F hX hM) : qS_op 200 13 5 122 4 [a1] (qE_R F) hX hM := by
  rcases h with ⟨nR, φ, ψ, tn, rfl, rfl, hA, hn⟩ | ⟨nR, nN, nT, gg, nI, ρ, φ, ψ, φ0, ψ0, Vf, Hb, rk, u, nK, o, s, tn, pn, kp, cur, fs, N, c, rfl, rfl, hρ, hD, hQ⟩
  · obtain ⟨v, ψ', e1, e2, h'⟩ := sn_go (F := F) (nR := nR) hA a1
    exact ⟨v, c0 nR φ, mw ψ', s0_go_n F 200 nR φ a1 v (by omega) e1, mo_go_n F 200 ψ a1 (v, ψ') (by omega) e2, Or.inl ⟨nR, φ, ψ', tn, rfl, rfl, h', hn⟩, rfl, rfl⟩
  · obtain ⟨v, φ', ψ', e1, e2, u, o, pn, nK, s, kp, cur, h'⟩ := so_go hD a1
    exact ⟨v, _, mw ψ', sf_go_n F 200 nR nN nT gg [] _ φ a1 (v, φ') (by omega) e1, mo_go_n F 200 ψ a1 (v, ψ') (by omega) e2, Or.inr ⟨nR, nN, nT, gg, nI, ρ, φ', ψ', φ0, ψ0, Vf, Hb, rk, u, nK, o, s, tn, pn, kp, cur, fs, N, c, rfl, rfl, hρ, h', hQ⟩, rfl, rfl⟩
theorem oe_pin (a1 a2 : Int32) (h : qE_R F hX hM) : qS_op 200 14 3 124 3 [a1, a2] (qE_R F) hX hM := by
  rcases h with ⟨nR, φ, ψ, tn, rfl, rfl, hA, hn⟩ | ⟨nR, nN, nT, gg, nI, ρ, φ, ψ, φ0, ψ0, Vf, Hb, rk, u, nK, o, s, tn, pn, kp, cur, fs, N, c, rfl, rfl, hρ, hD, hQ⟩
  · obtain ⟨v, ψ', e1, e2, h'⟩ := sn_pin (F := F) (nR := nR) hA a1 a2
    exact ⟨v, c0 nR φ, mw ψ', s0_pin_n F 200 nR φ a1 a2 v (by omega) e1, mo_pin_n F 200 ψ a1 a2 (v, ψ') (by omega) e2, Or.inl ⟨nR, φ, ψ', tn, rfl, rfl, h', hn⟩, rfl, rfl⟩
  · obtain ⟨v, φ', ψ', e1, e2, u, o, pn, nK, s, kp, cur, h'⟩ := so_pin hD a1 a2
    exact ⟨v, _, mw ψ', sf_pin_n F 200 nR nN nT gg [] _ φ a1 a2 (v, φ') (by omega) e1, mo_pin_n F 200 ψ a1 a2 (v, ψ') (by omega) e2, Or.inr ⟨nR, nN, nT, gg, nI, ρ, φ', ψ', φ0, ψ0, Vf, Hb, rk, u, nK, o, s, tn, pn, kp, cur, fs, N, c, rfl, rfl, hρ, h', hQ⟩, rfl, rfl⟩
theorem oe_keep (a1 : Int32) (h : qE_R F hX hM) : qS_op 200 15 2 126 2 [a1] (qE_R F) hX hM := by
  rcases h with ⟨nR, φ, ψ, tn, rfl, rfl, hA, hn⟩ | ⟨nR, nN, nT, gg, nI, ρ, φ, ψ, φ0, ψ0, Vf, Hb, rk, u, nK, o, s, tn, pn, kp, cur, fs, N, c, rfl, rfl, hρ, hD, hQ⟩
  · obtain ⟨v, ψ', e1, e2, h'⟩ := sn_keep (F := F) (nR := nR) hA a1
    exact ⟨v, c0 nR φ, mw ψ', s0_keep_n F 200 nR φ a1 v (by omega) e1, mo_keep_n F 200 ψ a1 (v, ψ') (by omega) e2, Or.inl ⟨nR, φ, ψ', tn, rfl, rfl, h', hn⟩, rfl, rfl⟩
  · obtain ⟨v, φ', ψ', e1, e2, u, o, pn, nK, s, kp, cur, h'⟩ := so_keep hD a1
    exact ⟨v, _, mw ψ', sf_keep_n F 200 nR nN nT gg [] _ φ a1 (v, φ') (by omega) e1, mo_keep_n F 200 ψ a1 (v, ψ') (by omega) e2, Or.inr ⟨nR, nN, nT, gg, nI, ρ, φ', ψ', φ0, ψ0, Vf, Hb, rk, u, nK, o, s, tn, pn, kp, cur, fs, N, c, rfl, rfl, hρ, h', hQ⟩, rfl, rfl⟩
theorem oe_drop (a1 : Int32) (h : qE_R F hX hM) : qS_op 200 16 2 127 4 [a1] (qE_R F) hX hM := by
  rcases h with ⟨nR, φ, ψ, tn, rfl, rfl, hA, hn⟩ | ⟨nR, nN, nT, gg, nI, ρ, φ, ψ, φ0, ψ0, Vf, Hb, rk, u, nK, o, s, tn, pn, kp, cur, fs, N, c, rfl, rfl, hρ, hD, hQ⟩
  · obtain ⟨v, ψ', e1, e2, h'⟩ := sn_drop (F := F) (nR := nR) hA a1
    exact ⟨v, c0 nR φ, mw ψ', s0_drop_n F 200 nR φ a1 v (by omega) e1, mo_drop_n F 200 ψ a1 (v, ψ') (by omega) e2, Or.inl ⟨nR, φ, ψ', tn, rfl, rfl, h', hn⟩, rfl, rfl⟩
  · obtain ⟨v, φ', ψ', e1, e2, u, o, pn, nK, s, kp, cur, h'⟩ := so_drop hD a1
    exact ⟨v, _, mw ψ', sf_drop_n F 200 nR nN nT gg [] _ φ a1 (v, φ') (by omega) e1, mo_drop_n F 200 ψ a1 (v, ψ') (by omega) e2, Or.inr ⟨nR, nN, nT, gg, nI, ρ, φ', ψ', φ0, ψ0, Vf, Hb, rk, u, nK, o, s, tn, pn, kp, cur, fs, N, c, rfl, rfl, hρ, h', hQ⟩, rfl, rfl⟩
theorem oe_set (a1 a2 : Int32) (h : qE_R F hX hM) : qS_op 200 17 3 128 4 [a1, a2] (qE_R F) hX hM := by
  rcases h with ⟨nR, φ, ψ, tn, rfl, rfl, hA, hn⟩ | ⟨nR, nN, nT, gg, nI, ρ, φ, ψ, φ0, ψ0, Vf, Hb, rk, u, nK, o, s, tn, pn, kp, cur, fs, N, c, rfl, rfl, hρ, hD, hQ⟩
  · obtain ⟨v, ψ', e1, e2, h'⟩ := sn_set (F := F) (nR := nR) hA a1 a2
    exact ⟨v, c0 nR φ, mw ψ', s0_set_n F 200 nR φ a1 a2 v (by omega) e1, mo_set_n F 200 ψ a1 a2 (v, ψ') (by omega) e2, Or.inl ⟨nR, φ, ψ', tn, rfl, rfl, h', hn⟩, rfl, rfl⟩
  · obtain ⟨v, φ', ψ', e1, e2, u, o, pn, nK, s, kp, cur, h'⟩ := so_set hD a1 a2
    exact ⟨v, _, mw ψ', sf_set_n F 200 nR nN nT gg [] _ φ a1 a2 (v, φ') (by omega) e1, mo_set_n F 200 ψ a1 a2 (v, ψ') (by omega) e2, Or.inr ⟨nR, nN, nT, gg, nI, ρ, φ', ψ', φ0, ψ0, Vf, Hb, rk, u, nK, o, s, tn, pn, kp, cur, fs, N, c, rfl, rfl, hρ, h', hQ⟩, rfl, rfl⟩
theorem oe_state (a1 : Int32) (h : qE_R F hX hM) : qS_op 200 18 2 129 2 [a1] (qE_R F) hX hM := by
  rcases h with ⟨nR, φ, ψ, tn, rfl, rfl, hA, hn⟩ | ⟨nR, nN, nT, gg, nI, ρ, φ, ψ, φ0, ψ0, Vf, Hb, rk, u, nK, o, s, tn, pn, kp, cur, fs, N, c, rfl, rfl, hρ, hD, hQ⟩
  · obtain ⟨v, ψ', e1, e2, h'⟩ := sn_state (F := F) (nR := nR) hA a1
    exact ⟨v, c0 nR φ, mw ψ', s0_state_n F 200 nR φ a1 v (by omega) e1, mo_state_n F 200 ψ a1 (v, ψ') (by omega) e2, Or.inl ⟨nR, φ, ψ', tn, rfl, rfl, h', hn⟩, rfl, rfl⟩
  · obtain ⟨v, ψ', e1, e2, h'⟩ := so_state hD a1
    exact ⟨v, _, mw ψ', sf_state_n F 200 nR nN nT gg [] _ φ a1 v (by omega) e1, mo_state_n F 200 ψ a1 (v, ψ') (by omega) e2, Or.inr ⟨nR, nN, nT, gg, nI, ρ, φ, ψ', φ0, ψ0, Vf, Hb, rk, u, nK, o, s, tn, pn, kp, cur, fs, N, c, rfl, rfl, hρ, h', hQ⟩, rfl, rfl⟩
theorem oe_many (a1 : Int32) (h : qE_R F hX hM) : qS_op 200 19 2 130 2 [a1] (qE_R F) hX hM := by
  rcases h with ⟨nR, φ, ψ, tn, rfl, rfl, hA, hn⟩ | ⟨nR, nN, nT, gg, nI, ρ, φ, ψ, φ0, ψ0, Vf, Hb, rk, u, nK, o, s, tn, pn, kp, cur, fs, N, c, rfl, rfl, hρ, hD, hQ⟩
  · obtain ⟨v, ψ', e1, e2, h'⟩ := sn_many (F := F) (nR := nR) hA a1
    exact ⟨v, c0 nR φ, mw ψ', s0_many_n F 200 nR φ a1 v (by omega) e1, mo_many_n F 200 ψ a1 (v, ψ') (by omega) e2, Or.inl ⟨nR, φ, ψ', tn, rfl, rfl, h', hn⟩, rfl, rfl⟩
  · obtain ⟨v, φ', ψ', e1, e2, h'⟩ := so_many hD a1
    exact ⟨v, _, mw ψ', sf_many_n F 200 nR nN nT gg [] _ φ a1 (v, φ') (by omega) e1, mo_many_n F 200 ψ a1 (v, ψ') (by omega) e2, Or.inr ⟨nR, nN, nT, gg, nI, ρ, φ', ψ', φ0, ψ0, Vf, Hb, rk, u, nK, o, s, tn, pn, kp, cur, fs, N, c, rfl, rfl, hρ, h', hQ⟩, rfl, rfl⟩
theorem oe_by (a1 a2 : Int32) (h : qE_R F hX hM) : qS_op 200 20 3 131 5 [a1, a2] (qE_R F) hX hM := by
  rcases h with ⟨nR, φ, ψ, tn, rfl, rfl, hA, hn⟩ | ⟨nR, nN, nT, gg, nI, ρ, φ, ψ, φ0, ψ0, Vf, Hb, rk, u, nK, o, s, tn, pn, kp, cur, fs, N, c, rfl, rfl, hρ, hD, hQ⟩
  · obtain ⟨v, ψ', e1, e2, h'⟩ := sn_by (F := F) (nR := nR) hA a1 a2
    exact ⟨v, c0 nR φ, mw ψ', s0_by_n F 200 nR φ a1 a2 v (by omega) e1, mo_by_n F 200 ψ a1 a2 (v, ψ') (by omega) e2, Or.inl ⟨nR, φ, ψ', tn, rfl, rfl, h', hn⟩, rfl, rfl⟩
  · obtain ⟨v, φ', ψ', e1, e2, h'⟩ := so_by hD a1 a2
    exact ⟨v, _, mw ψ', sf_by_n F 200 nR nN nT gg [] _ φ a1 a2 (v, φ') (by omega) e1, mo_by_n F 200 ψ a1 a2 (v, ψ') (by omega) e2, Or.inr ⟨nR, nN, nT, gg, nI, ρ, φ', ψ', φ0, ψ0, Vf, Hb, rk, u, nK, o, s, tn, pn, kp, cur, fs, N, c, rfl, rfl, hρ, h', hQ⟩, rfl, rfl⟩
theorem oe_refutes (a1 : Int32) (h : qE_R F hX hM) : qS_op 200 21 2 132 2 [a1] (qE_R F) hX hM := by
  rcases h with ⟨nR, φ, ψ, tn, rfl, rfl, hA, hn⟩ | ⟨nR, nN, nT, gg, nI, ρ, φ, ψ, φ0, ψ0, Vf, Hb, rk, u, nK, o, s, tn, pn, kp, cur, fs, N, c, rfl, rfl, hρ, hD, hQ⟩
  · obtain ⟨v, ψ', e1, e2, h'⟩ := sn_refutes (F := F) (nR := nR) hA a1
    exact ⟨v, c0 nR φ, mw ψ', s0_refutes_n F 200 nR φ a1 v (by omega) e1, mo_refutes_n F 200 ψ a1 (v, ψ') (by omega) e2, Or.inl ⟨nR, φ, ψ', tn, rfl, rfl, h', hn⟩, rfl, rfl⟩
  · obtain ⟨v, φ', ψ', e1, e2, h'⟩ := so_refutes hD a1
    exact ⟨v, _, mw ψ', sf_refutes_n F 200 nR nN nT gg [] _ φ a1 (v, φ') (by omega) e1, mo_refutes_n F 200 ψ a1 (v, ψ') (by omega) e2, Or.inr ⟨nR, nN, nT, gg, nI, ρ, φ', ψ', φ0, ψ0, Vf, Hb, rk, u, nK, o, s, tn, pn, kp, cur, fs, N, c, rfl, rfl, hρ, h', hQ⟩, rfl, rfl⟩
theorem oe_sharpest (a1 : Int32) (h : qE_R F hX hM) : qS_op 200 22 3 133 6 [a1] (qE_R F) hX hM := by
  rcases h with ⟨nR, φ, ψ, tn, rfl, rfl, hA, hn⟩ | ⟨nR, nN, nT, gg, nI, ρ, φ, ψ, φ0, ψ0, Vf, Hb, rk, u, nK, o, s, tn, pn, kp, cur, fs, N, c, rfl, rfl, hρ, hD, hQ⟩
  · obtain ⟨v, ψ', e1, e2, h'⟩ := sn_sharpest (F := F) (nR := nR) hA a1
    exact ⟨v, c0 nR φ, mw ψ', s0_sharpest_n F 200 nR φ a1 v (by omega) e1, mo_sharpest_n F 200 ψ a1 (v, ψ') (by omega) e2, Or.inl ⟨nR, φ, ψ', tn, rfl, rfl, h', hn⟩, rfl, rfl⟩
  · obtain ⟨v, φ', ψ', e1, e2, h'⟩ := so_sharpest hD a1
    exact ⟨v, _, mw ψ', sf_sharpest_n F 200 nR nN nT gg [] _ φ a1 (v, φ') (by omega) e1, mo_sharpest_n F 200 ψ a1 (v, ψ') (by omega) e2, Or.inr ⟨nR, nN, nT, gg, nI, ρ, φ', ψ', φ0, ψ0, Vf, Hb, rk, u, nK, o, s, tn, pn, kp, cur, fs, N, c, rfl, rfl, hρ, h', hQ⟩, rfl, rfl⟩
theorem oe_free (a1 a2 : Int32) (h : qE_R F hX hM) : qS_op 200 23 6 134 8 [a1, a2] (qE_R F) hX hM := by
  rcases h with ⟨nR, φ, ψ, tn, rfl, rfl, hA, hn⟩ | ⟨nR, nN, nT, gg, nI, ρ, φ, ψ, φ0, ψ0, Vf, Hb, rk, u, nK, o, s, tn, pn, kp, cur, fs, N, c, rfl, rfl, hρ, hD, hQ⟩
  · obtain ⟨v, ψ', e1, e2, h'⟩ := sn_free (F := F) (nR := nR) hA a1 a2
    exact ⟨v, c0 nR φ, mw ψ', s0_free_n F 200 nR φ a1 a2 v (by omega) e1, mo_free_n F 200 ψ a1 a2 (v, ψ') (by omega) e2, Or.inl ⟨nR, φ, ψ', tn, rfl, rfl, h', hn⟩, rfl, rfl⟩
  · obtain ⟨v, φ', ψ', e1, e2, h'⟩ := so_free hQ.2.2 hD a1 a2
    exact ⟨v, _, mw ψ', sf_free_n F 200 nR nN nT gg [] _ φ a1 a2 (v, φ') (by omega) e1, mo_free_n F 200 ψ a1 a2 (v, ψ') (by omega) e2, Or.inr ⟨nR, nN, nT, gg, nI, ρ, φ', ψ', φ0, ψ0, Vf, Hb, rk, u, nK, o, s, tn, pn, kp, cur, fs, N, c, rfl, rfl, hρ, h', hQ⟩, rfl, rfl⟩
theorem oe_needed (a1 : Int32) (h : qE_R F hX hM) : qS_op 200 24 2 135 4 [a1] (qE_R F) hX hM := by
  rcases h with ⟨nR, φ, ψ, tn, rfl, rfl, hA, hn⟩ | ⟨nR, nN, nT, gg, nI, ρ, φ, ψ, φ0, ψ0, Vf, Hb, rk, u, nK, o, s, tn, pn, kp, cur, fs, N, c, rfl, rfl, hρ, hD, hQ⟩
  · obtain ⟨v, ψ', e1, e2, h'⟩ := sn_needed (F := F) (nR := nR) hA a1
    exact ⟨v, c0 nR φ, mw ψ', s0_needed_n F 200 nR φ a1 v (by omega) e1, mo_needed_n F 200 ψ a1 (v, ψ') (by omega) e2, Or.inl ⟨nR, φ, ψ', tn, rfl, rfl, h', hn⟩, rfl, rfl⟩
  · obtain ⟨v, φ', ψ', e1, e2, h'⟩ := so_needed hD a1
    exact ⟨v, _, mw ψ', sf_needed_n F 200 nR nN nT gg [] _ φ a1 (v, φ') (by omega) e1, mo_needed_n F 200 ψ a1 (v, ψ') (by omega) e2, Or.inr ⟨nR, nN, nT, gg, nI, ρ, φ', ψ', φ0, ψ0, Vf, Hb, rk, u, nK, o, s, tn, pn, kp, cur, fs, N, c, rfl, rfl, hρ, h', hQ⟩, rfl, rfl⟩
theorem oe_core (a1 : Int32) (h : qE_R F hX hM) : qS_op 200 25 4 136 6 [a1] (qE_R F) hX hM := by
  rcases h with ⟨nR, φ, ψ, tn, rfl, rfl, hA, hn⟩ | ⟨nR, nN, nT, gg, nI, ρ, φ, ψ, φ0, ψ0, Vf, Hb, rk, u, nK, o, s, tn, pn, kp, cur, fs, N, c, rfl, rfl, hρ, hD, hQ⟩
  · obtain ⟨v, ψ', e1, e2, h'⟩ := sn_core (F := F) (nR := nR) hA a1
    exact ⟨v, c0 nR φ, mw ψ', s0_core_n F 200 nR φ a1 v (by omega) e1, mo_core_n F 200 ψ a1 (v, ψ') (by omega) e2, Or.inl ⟨nR, φ, ψ', tn, rfl, rfl, h', hn⟩, rfl, rfl⟩
  · obtain ⟨v, φ', ψ', e1, e2, h'⟩ := so_core hD a1
    exact ⟨v, _, mw ψ', sf_core_n F 200 nR nN nT gg [] _ φ a1 (v, φ') (by omega) e1, mo_core_n F 200 ψ a1 (v, ψ') (by omega) e2, Or.inr ⟨nR, nN, nT, gg, nI, ρ, φ', ψ', φ0, ψ0, Vf, Hb, rk, u, nK, o, s, tn, pn, kp, cur, fs, N, c, rfl, rfl, hρ, h', hQ⟩, rfl, rfl⟩
theorem oe_kinds (h : qE_R F hX hM) : qS_op 200 26 1 139 3 [] (qE_R F) hX hM := by
  rcases h with ⟨nR, φ, ψ, tn, rfl, rfl, hA, hn⟩ | ⟨nR, nN, nT, gg, nI, ρ, φ, ψ, φ0, ψ0, Vf, Hb, rk, u, nK, o, s, tn, pn, kp, cur, fs, N, c, rfl, rfl, hρ, hD, hQ⟩
  · obtain ⟨v, ψ', e1, e2, h'⟩ := sn_kinds (F := F) (nR := nR) hA
    exact ⟨v, c0 nR φ, mw ψ', s0_kinds_n F 200 nR φ v (by omega) e1, mo_kinds_n F 200 ψ (v, ψ') (by omega) e2, Or.inl ⟨nR, φ, ψ', tn, rfl, rfl, h', hn⟩, rfl, rfl⟩
  · obtain ⟨v, φ', ψ', e1, e2, h'⟩ := so_kinds hD
    exact ⟨v, _, mw ψ', sf_kinds_n F 200 nR nN nT gg [] _ φ (v, φ') (by omega) e1, mo_kinds_n F 200 ψ (v, ψ') (by omega) e2, Or.inr ⟨nR, nN, nT, gg, nI, ρ, φ', ψ', φ0, ψ0, Vf, Hb, rk, u, nK, o, s, tn, pn, kp, cur, fs, N, c, rfl, rfl, hρ, h', hQ⟩, rfl, rfl⟩
theorem oe_alike (a1 a2 : Int32) (h : qE_R F hX hM) : qS_op 200 27 3 140 3 [a1, a2] (qE_R F) hX hM := by
  rcases h with ⟨nR, φ, ψ, tn, rfl, rfl, hA, hn⟩ | ⟨nR, nN, nT, gg, nI, ρ, φ, ψ, φ0, ψ0, Vf, Hb, rk, u, nK, o, s, tn, pn, kp, cur, fs, N, c, rfl, rfl, hρ, hD, hQ⟩
  · obtain ⟨v, ψ', e1, e2, h'⟩ := sn_alike (F := F) (nR := nR) hA a1 a2
    exact ⟨v, c0 nR φ, mw ψ', s0_alike_n F 200 nR φ a1 a2 v (by omega) e1, mo_alike_n F 200 ψ a1 a2 (v, ψ') (by omega) e2, Or.inl ⟨nR, φ, ψ', tn, rfl, rfl, h', hn⟩, rfl, rfl⟩
  · obtain ⟨v, φ', ψ', e1, e2, h'⟩ := so_alike hD a1 a2
    exact ⟨v, _, mw ψ', sf_alike_n F 200 nR nN nT gg [] _ φ a1 a2 (v, φ') (by omega) e1, mo_alike_n F 200 ψ a1 a2 (v, ψ') (by omega) e2, Or.inr ⟨nR, nN, nT, gg, nI, ρ, φ', ψ', φ0, ψ0, Vf, Hb, rk, u, nK, o, s, tn, pn, kp, cur, fs, N, c, rfl, rfl, hρ, h', hQ⟩, rfl, rfl⟩
theorem oe_shown (a1 a2 : Int32) (h : qE_R F hX hM) : qS_op 200 28 3 146 4 [a1, a2] (qE_R F) hX hM := by
  rcases h with ⟨nR, φ, ψ, tn, rfl, rfl, hA, hn⟩ | ⟨nR, nN, nT, gg, nI, ρ, φ, ψ, φ0, ψ0, Vf, Hb, rk, u, nK, o, s, tn, pn, kp, cur, fs, N, c, rfl, rfl, hρ, hD, hQ⟩
  · obtain ⟨v, ψ', e1, e2, h'⟩ := sn_shown (F := F) (nR := nR) hA a1 a2
    exact ⟨v, c0 nR φ, mw ψ', s0_shown_n F 200 nR φ a1 a2 v (by omega) e1, mo_shown_n F 200 ψ a1 a2 (v, ψ') (by omega) e2, Or.inl ⟨nR, φ, ψ', tn, rfl, rfl, h', hn⟩, rfl, rfl⟩
  · obtain ⟨v, ψ', e1, e2, h'⟩ := so_shown hD hQ.2.1 a1 a2
    exact ⟨v, _, mw ψ', sf_shown_n F 200 nR nN nT gg [] _ φ a1 a2 v (by omega) e1, mo_shown_n F 200 ψ a1 a2 (v, ψ') (by omega) e2, Or.inr ⟨nR, nN, nT, gg, nI, ρ, φ, ψ', φ0, ψ0, Vf, Hb, rk, u, nK, o, s, tn, pn, kp, cur, fs, N, c, rfl, rfl, hρ, h', hQ⟩, rfl, rfl⟩
theorem oe_feed (a1 a2 a3 a4 a5 : Int32) (h : qE_R (F + 5) hX hM) : qS_op 200 1 6 33 6 [a1, a2, a3, a4, a5] (qE_R (F + 5)) hX hM := by
  rcases h with ⟨nR, φ, ψ, tn, rfl, rfl, hA, hn⟩ | ⟨nR, nN, nT, gg, nI, ρ, φ, ψ, φ0, ψ0, Vf, Hb, rk, u, nK, o, s, tn, pn, kp, cur, fs, N, c, rfl, rfl, hρ, hD, hQ⟩
  · obtain ⟨v, φ', ψ', n', e1, e2, T, hn', f⟩ := qt_feed (F := F) (nR := nR) hA.2.1 hA.2.2.1 a1 a2 a3 a4 a5
    exact ⟨v, c0 nR φ', mw ψ', sf_feed_n (F + 5) 200 nR [] c0_R φ a1 a2 a3 a4 a5 (v, φ') (by omega) e1, mo_feed_n (F + 5) 200 ψ a1 a2 a3 a4 a5 (v, ψ') (by omega) e2, Or.inl ⟨nR, φ', ψ', n', rfl, rfl, sA_D.fd hA T hn' f, hn⟩, rfl, rfl⟩
  · obtain ⟨v, φ', ψ', n', e1, e2, T, hn', f⟩ := qt_feed (F := F) (nR := nR) hD.2.2.2.2.2.2.2.2.2.2.2.2.2.1 hD.2.2.2.2.2.2.2.2.2.2.2.2.2.2 a1 a2 a3 a4 a5
    exact ⟨v, cs nR nN nT gg [] ρ φ', mw ψ', sf_feed_n (F + 5) 200 nR _ _ φ a1 a2 a3 a4 a5 (v, φ') (by omega) e1, mo_feed_n (F + 5) 200 ψ a1 a2 a3 a4 a5 (v, ψ') (by omega) e2, Or.inr ⟨nR, nN, nT, gg, nI, ρ, φ', ψ', φ0, ψ0, Vf, Hb, rk, u, nK, o, s, n', pn, kp, cur, fs, N, c, rfl, rfl, hρ, sb_D.fd hD T hn' f, hQ⟩, rfl, rfl⟩
end QER
