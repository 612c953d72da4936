/-! SKETCH on both sides, whole -/
def qE_K25 (nR nN nT gg : Nat) : List (Nat × Nat) := [(0, 8), (0, 5), (1, 800), (2, nR), (0, 6), (1, nN), (1, nN + 1), (1, nN + 1), (1, nN + 1), (1, nN + 1), (0, 2), (0, 1), (1, 15), (1, 15), (0, 3), (1, 3), (1, 5), (1, 5), (1, 0), (1, 0), (1, nT), (1, nT), (1, nT), (1, gg), (1, gg)]
def qE_K35 (nR nN nT gg nS : Nat) : List (Nat × Nat) := [(0, 8), (0, 5), (1, 800), (2, nR), (0, 6), (1, nN), (1, nN + 1), (1, nN + 1), (1, nN + 1), (1, nN + 1), (0, 2), (0, 1), (1, 15), (1, 15), (0, 3), (1, 3), (1, 5), (1, 5), (1, 0), (1, 0), (1, nT), (1, nT), (1, nT), (1, gg), (1, gg), (2, nS), (0, 7), (0, 0), (1, 15), (1, 4), (1, 64), (0, 4), (1, 5), (1, 40), (3, gg)]
set_option maxRecDepth 100000 in
theorem sk_92_1 (d nR nN nT gg nS : Nat) (sr : Option Nat) (φ5 : qm_F) (x1 cc : Int32) (r : Option Value × qm_H) (h : ¬ cc ≤ Int32.ofNat nR) (hg : qm_in cc 100000 = true) (hN : cc.toNatClampNeg = nS)
    (kk : qm_Rn d 2 103 [.ref 0, .int x1, .ref 4, .ref 10, .ref 14, .int cc, .retAddr 0] [] ([(0, 8), (0, 5), (1, 800), (2, nR), (0, 6), (1, nN), (1, nN + 1), (1, nN + 1), (1, nN + 1), (1, nN + 1), (0, 2), (0, 1), (1, 15), (1, 15), (0, 3), (1, 3), (1, 5), (1, 5), (1, 0), (1, 0), (1, nT), (1, nT), (1, nT), (1, gg), (1, gg), (2, nS)], (qm_z φ5 25 0), (qm_u (qm_z (sk_r4 sr) 25 none) 0 1 (some 25))) r) :
    qm_Rn d 2 92 [.ref 0, .int x1, .ref 4, .ref 10, .ref 14, .int cc, .retAddr 0] [.int cc, .int (Int32.ofNat nR)] ([(0, 8), (0, 5), (1, 800), (2, nR), (0, 6), (1, nN), (1, nN + 1), (1, nN + 1), (1, nN + 1), (1, nN + 1), (0, 2), (0, 1), (1, 15), (1, 15), (0, 3), (1, 3), (1, 5), (1, 5), (1, 0), (1, 0), (1, nT), (1, nT), (1, nT), (1, gg), (1, gg)], φ5, sk_r4 sr) r := by
  have hC := qC_2
  refine qr_ge2 (tgt := 103) hC rfl (by decide) rfl (fun z => absurd z h) (fun _ => ?_)
  refine qr_s hC (n := 2) (pc' := 98) (ls' := [.ref 0, .int x1, .ref 4, .ref 10, .ref 14, .int cc, .retAddr 0]) (st' := [.int cc, .ref 0]) (h' := ([(0, 8), (0, 5), (1, 800), (2, nR), (0, 6), (1, nN), (1, nN + 1), (1, nN + 1), (1, nN + 1), (1, nN + 1), (0, 2), (0, 1), (1, 15), (1, 15), (0, 3), (1, 3), (1, 5), (1, 5), (1, 0), (1, 0), (1, nT), (1, nT), (1, nT), (1, gg), (1, gg)], φ5, sk_r4 sr)) rfl ?_
  refine qr_na (kx := 2) (N := nS) (h' := ([(0, 8), (0, 5), (1, 800), (2, nR), (0, 6), (1, nN), (1, nN + 1), (1, nN + 1), (1, nN + 1), (1, nN + 1), (0, 2), (0, 1), (1, 15), (1, 15), (0, 3), (1, 3), (1, 5), (1, 5), (1, 0), (1, 0), (1, nT), (1, nT), (1, nT), (1, gg), (1, gg), (2, nS)], qm_z φ5 25 0, qm_z (sk_r4 sr) 25 none)) hC rfl rfl hg hN rfl rfl ?_
  show qm_Rn _ 2 100 [.ref 0, .int x1, .ref 4, .ref 10, .ref 14, .int cc, .retAddr 0] [.ref 25, .ref 0] ([(0, 8), (0, 5), (1, 800), (2, nR), (0, 6), (1, nN), (1, nN + 1), (1, nN + 1), (1, nN + 1), (1, nN + 1), (0, 2), (0, 1), (1, 15), (1, 15), (0, 3), (1, 3), (1, 5), (1, 5), (1, 0), (1, 0), (1, nT), (1, nT), (1, nT), (1, gg), (1, gg), (2, nS)], qm_z φ5 25 0, qm_z (sk_r4 sr) 25 none) _
  refine qr_s hC (n := 1) (pc' := 103) (ls' := [.ref 0, .int x1, .ref 4, .ref 10, .ref 14, .int cc, .retAddr 0]) (st' := []) (h' := ([(0, 8), (0, 5), (1, 800), (2, nR), (0, 6), (1, nN), (1, nN + 1), (1, nN + 1), (1, nN + 1), (1, nN + 1), (0, 2), (0, 1), (1, 15), (1, 15), (0, 3), (1, 3), (1, 5), (1, 5), (1, 0), (1, 0), (1, nT), (1, nT), (1, nT), (1, gg), (1, gg), (2, nS)], qm_z φ5 25 0, qm_u (qm_z (sk_r4 sr) 25 none) 0 1 (some 25))) rfl ?_
  exact kk
/-- what a sketch leaves behind in the small worlds -/
def qE_out (F nR : Nat) (sr : Option Nat) (φ ψ : qm_F) (hX1 : qm_H) (ψ' : qm_F) : Prop :=
  (hX1 = c4 nR [] (sk_R sr) φ ∧ ψ' = qm_u ψ 0 0 0) ∨
  (∃ n cnt φ3 ψ3, n ≤ 800 ∧ cnt ≤ 801 ∧ hX1 = cw nR n cnt [] (sk_r3 sr) φ3 ∧ ψ' = qm_u ψ3 0 13 0 ∧ sk_b n ψ ψ3 ∧ ∀ a j, a < 4 → φ3 a j = (qm_u φ 1 1 0) a j) ∨
  (∃ (n cnt gg nI : Nat) (φ5 : qm_F) (Vf : Nat → Nat → Nat → Nat) (Hb : List Nat) (rk : Nat → Nat) (fs N : Nat) (c : Nat → Nat), n ≤ 800 ∧ cnt ≤ 801 ∧ gg ≤ 128 ∧ hX1 = cs nR n cnt gg [] (sk_r7_0 sr) (sk_f7_0 nR φ5) ∧ sb_D F nR n cnt gg nI (sk_f7_0 nR φ5) ψ' Vf Hb rk 0 0 0 0 0 (fun _ => -1) (fun _ => 0) (-1) (sk_f7_0 nR φ5) ψ' ∧ sk_Q F nR n cnt gg nI (sk_f7_0 nR φ5) ψ' Hb fs N c) ∨
  (∃ (n cnt gg nI nS : Nat) (φ5 : qm_F) (Vf : Nat → Nat → Nat → Nat) (Hb : List Nat) (rk : Nat → Nat) (fs N : Nat) (c : Nat → Nat), n ≤ 800 ∧ cnt ≤ 801 ∧ gg ≤ 128 ∧ nR < nS ∧ nS ≤ 16384 ∧ (∃ k, nS = 2 ^ k) ∧ hX1 = (qE_K35 nR n cnt gg nS, sk_f7_1 nS φ5, sk_r7_1 sr) ∧ sb_D F nS n cnt gg nI (fun a j => sk_f7_1 nS φ5 (sk_s a) j) ψ' Vf Hb rk 0 0 0 0 0 (fun _ => -1) (fun _ => 0) (-1) (fun a j => sk_f7_1 nS φ5 (sk_s a) j) ψ' ∧ sk_Q F nS n cnt gg nI (fun a j => sk_f7_1 nS φ5 (sk_s a) j) ψ' Hb fs N c)
theorem qE_sketch {F nR tn : Nat} {sr : Option Nat} {φ ψ : qm_F} (hF : 200000 ≤ F) (hR : nR ≤ 16384) (hT : qt_T φ ψ tn) (ht : tn ≤ 800) (h21 : ∀ j, j < 40 → ψ 21 j = 0) (x1 : Int32) : ∃ (v : Int32) (hX1 : qm_H) (ψ' : qm_F), qm_Rn 200 2 0 [.ref 0, .int x1, .retAddr 0, .retAddr 0, .retAddr 0, .retAddr 0, .retAddr 0] [] (c4 nR [] (sk_R sr) φ) (some (.int v), hX1) ∧ mo_sketch F ψ x1 = some (v, ψ') ∧ qE_out F nR sr φ ψ hX1 ψ' := by
  by_cases hb : x1 < 0 ∨ φ 1 1 < x1
  · refine ⟨-1, _, _, sk_bad_n 200 nR sr φ x1 hb (by omega), sk_bad0 (by rw [hT.2.1, ← hT.1]; exact hb), Or.inl ⟨rfl, rfl⟩⟩
  · have h1 : ¬ x1 < 0 := fun z => hb (Or.inl z)
    have h2 : ¬ φ 1 1 < x1 := fun z => hb (Or.inr z)
    obtain ⟨n, hn, rfl⟩ := ya_nat h1
    have hnt : n ≤ tn := by
      rw [hT.1, ya_lt (by omega) hn] at h2
      omega
    obtain ⟨φ2, cnt, c, z1, z2, z3, z4, z5, z6⟩ := sk_read (nR := nR) hF hT ht hnt
    have hcn := z4.2.1
    have pre := fun (b : Int32) (φ3 : qm_F) (r : Option Value × qm_H) (hp : pa_wholeSketch F nR n cnt (sk_f3 φ2) = some (b, φ3)) => sk_pre_n F 200 nR n cnt sr φ (Int32.ofNat n) φ2 φ3 b r (by omega) h1 h2 (decide_eq_true (by omega)) (ya_in hn (by omega)) (ya_nn hn) (by rw [ya_add1]; exact ya_in (by omega) (by omega)) (by rw [ya_add1]; exact ya_nn (by omega)) z1 (by rw [z2]; exact ya_in (by omega) (by omega)) (by rw [z2]; exact ya_nn (by omega)) hp
    rcases z6 with ⟨φ3, ψ3, fs, ns, W, Ib, Hb, Hr, v, r1, r2, r3, r4, r5, r6⟩ | ⟨φ3, ψ3, r1, r2, r3, r4⟩
    · obtain ⟨φ5, ψ8, gg, nI, rk, g1, g2, g3, g4, g5, g6, g7, g8, g9, g10, g11, g12, g13⟩ := sk_good (nR := nR) hF (by omega) z3 z4 z5 r3 r5 r6 h21
      have hcc : Int32.ofNat gg * Int32.ofNat nI = Int32.ofNat (gg * nI) := ya_mul gg nI
      have hgn : gg * nI ≤ 16384 := Nat.le_trans (Nat.mul_le_mul g3 g4) (by decide)
      have h11 : φ5 1 1 = 0 := by rw [g11 1 1 (by omega) (by omega), r4 1 1 (by omega)]; exact ya_u_same _ _ _ _
      have mid := fun (r : Option Value × qm_H) => sk_mid_n F 200 nR n cnt gg sr φ3 φ5 (Int32.ofNat n) 1 r (by omega) (by decide) (by rw [g7]; exact ya_in (by omega) (by omega)) (by rw [g7]; exact ya_nn (by omega)) (by rw [g7]; exact g10) (decide_eq_true (by omega)) (Int32.ofNat (gg * nI)) (by rw [g8, g9, hcc])
      by_cases q : gg * nI ≤ nR
      · have X := sk_X0 (nR := nR) (gg := gg) h11
        obtain ⟨k1, k2⟩ := g13 nR _ q hR X
        refine ⟨φ5 14 4, cs nR n cnt gg [] (sk_r7_0 sr) (sk_f7_0 nR φ5), ψ8, pre 1 φ3 _ r1 (mid _ ?_), by rw [r2]; exact g12, Or.inr (Or.inr (Or.inl ⟨n, cnt, gg, nI, φ5, _, Hb, rk, fs, _, c, by omega, by omega, g3, rfl, k1, k2⟩))⟩
        refine qr_ge2 (tgt := 103) qC_2 rfl (by decide) rfl (fun _ => ?_) (fun z => absurd ((ya_le (by omega) (by omega)).mpr q) z)
        rw [← qE_w70]
        exact sk_end0_n 200 nR n cnt gg sr φ5 (Int32.ofNat n) (Int32.ofNat (gg * nI)) (by omega) (by rw [g8]; exact ya_in (by omega) (by omega)) (by rw [g8]; exact ya_nn (by omega)) (by omega)
      · have X := sk_X1 (nS := gg * nI) (gg := gg) h11
        obtain ⟨k1, k2⟩ := g13 (gg * nI) _ (Nat.le_refl _) hgn X
        refine ⟨φ5 14 4, (qE_K35 nR n cnt gg (gg * nI), sk_f7_1 (gg * nI) φ5, sk_r7_1 sr), ψ8, pre 1 φ3 _ r1 (mid _ ?_), by rw [r2]; exact g12, Or.inr (Or.inr (Or.inr ⟨n, cnt, gg, nI, gg * nI, φ5, _, Hb, rk, fs, _, c, by omega, by omega, g3, by omega, hgn, ⟨Hb.sum + Ib.sum, by rw [g1, g2, Nat.pow_add]⟩, rfl, k1, k2⟩))⟩
        refine sk_92_1 200 nR n cnt gg (gg * nI) sr φ5 (Int32.ofNat n) (Int32.ofNat (gg * nI)) _ (by rw [ya_le (by omega) (by omega)]; exact q) (ya_in (by omega) (by omega)) (ya_nn (by omega)) ?_
        exact sk_end1_n 200 nR n cnt gg (gg * nI) sr φ5 (Int32.ofNat n) (Int32.ofNat (gg * nI)) (by omega) (by rw [g8]; exact ya_in (by omega) (by omega)) (by rw [g8]; exact ya_nn (by omega)) (by omega)
    · refine ⟨(-2) - φ3 10 5, cw nR n cnt [] (sk_r3 sr) φ3, qm_u ψ3 0 13 0, pre 0 φ3 _ r1 (sk_fault_n F 200 nR n cnt sr φ3 (Int32.ofNat n) (by omega)), r2, Or.inr (Or.inl ⟨n, cnt, φ3, ψ3, by omega, by omega, rfl, rfl, r4, r3⟩)⟩
