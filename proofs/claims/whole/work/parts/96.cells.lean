/-! THE LAW'S SKETCH, the case -/
theorem qE_sl1 (a : Nat × Nat) (l : List (Nat × Nat)) : qm_sl (a :: l) = qm_s1 a + qm_sl l := by
  unfold qm_sl
  rw [List.map_cons, List.sum_cons]
theorem qE_sl0 : qm_sl [] = 0 := rfl
theorem qE_cN : qm_s1 (0, 0) ≤ 30 ∧ qm_s1 (0, 1) ≤ 30 ∧ qm_s1 (0, 2) ≤ 30 ∧ qm_s1 (0, 3) ≤ 30 ∧ qm_s1 (0, 4) ≤ 30 ∧ qm_s1 (0, 6) ≤ 30 ∧ qm_s1 (0, 7) ≤ 30 := by decide +kernel
theorem qE_sk1 (k n : Nat) : qm_s1 (k + 1, n) = n := by unfold qm_s1; rw [if_neg (by omega)]
theorem qE_slw (nR n cnt : Nat) (ρ ρ' : Nat → Nat → Option Nat) (φ φ' : qm_F) (h1 : n ≤ 800) (h2 : cnt ≤ 801) : qm_sl (cw nR n cnt [] ρ φ).1 - qm_sl (c4 nR [] ρ' φ').1 ≤ 8000 := by
  obtain ⟨c0, c1, c2, c3, c4', c6, c7⟩ := qE_cN
  show qm_sl [(0, 8), (0, 5), (1, 800), (2, nR), (0, 6), (1, n), (1, n + 1), (1, n + 1), (1, n + 1), (1, n + 1), (0, 2), (0, 1), (1, 15), (1, 15), (0, 3), (1, 3), (1, 5), (1, 5), (1, 0), (1, 0), (1, cnt), (1, cnt), (1, cnt)] - qm_sl [(0, 8), (0, 5), (1, 800), (2, nR)] ≤ 8000
  simp only [qE_sl1, qE_sl0, qE_sk1 0, qE_sk1 1, qE_sk1 2]
  omega
theorem qE_sls (nR n cnt gg : Nat) (ρ ρ' : Nat → Nat → Option Nat) (φ φ' : qm_F) (h1 : n ≤ 800) (h2 : cnt ≤ 801) (h3 : gg ≤ 128) : qm_sl (cs nR n cnt gg [] ρ φ).1 - qm_sl (c4 nR [] ρ' φ').1 ≤ 8000 := by
  obtain ⟨c0, c1, c2, c3, c4', c6, c7⟩ := qE_cN
  show qm_sl [(0, 8), (0, 5), (1, 800), (2, nR), (0, 6), (1, n), (1, n + 1), (1, n + 1), (1, n + 1), (1, n + 1), (0, 2), (0, 1), (1, 15), (1, 15), (0, 3), (1, 3), (1, 5), (1, 5), (1, 0), (1, 0), (1, cnt), (1, cnt), (1, cnt), (1, gg), (1, gg), (0, 7), (0, 0), (1, 15), (1, 4), (1, 64), (0, 4), (1, 5), (1, 40), (3, gg)] - qm_sl [(0, 8), (0, 5), (1, 800), (2, nR)] ≤ 8000
  simp only [qE_sl1, qE_sl0, qE_sk1 0, qE_sk1 1, qE_sk1 2]
  omega
theorem qE_slk (nR n cnt gg nS : Nat) (ρ' : Nat → Nat → Option Nat) (φ' : qm_F) (h1 : n ≤ 800) (h2 : cnt ≤ 801) (h3 : gg ≤ 128) : qm_sl (qE_K35 nR n cnt gg nS) - qm_sl (c4 nR [] ρ' φ').1 ≤ 8000 + nS := by
  obtain ⟨c0, c1, c2, c3, c4', c6, c7⟩ := qE_cN
  unfold qE_K35
  show qm_sl _ - qm_sl [(0, 8), (0, 5), (1, 800), (2, nR)] ≤ 8000 + nS
  simp only [qE_sl1, qE_sl0, qE_sk1 0, qE_sk1 1, qE_sk1 2]
  omega
theorem qE_pt2 {nR nS : Nat} (h : qE_pw nR) (h1 : nR < nS) (h2 : ∃ k, nS = 2 ^ k) : 2 * nR ≤ nS := by
  obtain ⟨k, rfl⟩ := h2
  rcases h with rfl | ⟨j, rfl⟩
  · omega
  · have hjk : j < k := by
      by_cases z : j < k
      · exact z
      · have := Nat.pow_le_pow_right (n := 2) (by omega) (Nat.le_of_not_lt z)
        omega
    have := Nat.pow_le_pow_right (n := 2) (by omega) hjk
    rw [Nat.pow_succ] at this
    omega
theorem qE_ss {i j : Nat} (h : sk_s i = sk_s j) : i = j := by
  unfold sk_s at h
  repeat' split at h
  all_goals omega
theorem qE_kk (nR n cnt gg nS : Nat) (ρ : Nat → Nat → Option Nat) (φ : qm_F) : ∀ i, i < 34 → (qE_K35 nR n cnt gg nS)[sk_s i]? = (cs nS n cnt gg [] ρ φ).1[i]? := by
  intro i hi
  match i, hi with
  | 0, _ => rfl
  | 1, _ => rfl
  | 2, _ => rfl
  | 3, _ => rfl
  | 4, _ => rfl
  | 5, _ => rfl
  | 6, _ => rfl
  | 7, _ => rfl
  | 8, _ => rfl
  | 9, _ => rfl
  | 10, _ => rfl
  | 11, _ => rfl
  | 12, _ => rfl
  | 13, _ => rfl
  | 14, _ => rfl
  | 15, _ => rfl
  | 16, _ => rfl
  | 17, _ => rfl
  | 18, _ => rfl
  | 19, _ => rfl
  | 20, _ => rfl
  | 21, _ => rfl
  | 22, _ => rfl
  | 23, _ => rfl
  | 24, _ => rfl
  | 25, _ => rfl
  | 26, _ => rfl
  | 27, _ => rfl
  | 28, _ => rfl
  | 29, _ => rfl
  | 30, _ => rfl
  | 31, _ => rfl
  | 32, _ => rfl
  | 33, _ => rfl
  | i + 34, h => exact absurd h (by omega)
section QES
variable {D : va_G} {G : ClassId × ClassId × ClassId} {z0 : Nat} {H : Heap} {A : Nat → Prop} {ax : Nat → Nat}
/-- the row is new -/
theorem qE_s71 {nR n cnt gg nS : Nat} {φ5 : qm_F} {sr : Option Nat} (C : qL_C D G z0 H A ax (qE_K35 nR n cnt gg nS, sk_f7_1 nS φ5, sk_r7_1 sr)) : qL_C D G z0 H A (fun a => ax (sk_s a)) (cs nS n cnt gg [] (qE_ρ1 sr) (fun a j => sk_f7_1 nS φ5 (sk_s a) j)) := by
  refine C.sub (σ := sk_s) (fun i hi => qE_kk nR n cnt gg nS _ _ i hi) (fun i j _ _ e => qE_ss e) (fun i _ => rfl) (fun i j _ => rfl) (fun i j _ => ?_)
  show (c4_R (ct_R (cw_R (cr_R (cs_R (qE_ρ1 sr))))) i j).map (fun a => ax (sk_s a)) = (sk_r7_1 sr (sk_s i) j).map ax
  rw [qE_id71]
  unfold qE_ρ1
  cases hr : sk_r7_1 sr (sk_s i) j with
  | none => rfl
  | some r =>
    have := qE_r71 sr _ _ _ hr
    show some (ax (sk_s (qE_t r))) = some (ax r)
    rw [qE_st this.1 this.2]
/-- the first four cells alone -/
theorem qE_s4 {nR n cnt : Nat} {φ3 : qm_F} (C : qL_C D G z0 H A ax (cw nR n cnt [] (sk_r3 none) φ3)) : qL_C D G z0 H A ax (c0 nR φ3) := by
  refine C.sub (σ := fun i => i) (fun i hi => ?_) (fun i j _ _ e => e) (fun i _ => rfl) (fun i j _ => rfl) (fun i j hi => ?_)
  · match i, hi with
    | 0, _ => rfl
    | 1, _ => rfl
    | 2, _ => rfl
    | 3, _ => rfl
    | i + 4, h => exact absurd (show i + 4 < 4 from h) (by omega)
  · have e : (c0 nR φ3).2.2 i j = (cw nR n cnt [] (sk_r3 none) φ3).2.2 i j := by
      rw [qE_lo3 nR n cnt none φ3 hi j]
      show c4_R c0_R i j = _
      rw [qE_c0R]
    rw [e]
end QES
