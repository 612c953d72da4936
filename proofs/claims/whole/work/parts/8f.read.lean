/-! SEMANTICS: sketch, both read -/
section S22
variable {F nR n tn : Nat} {φ ψ : qm_F}
def sk_b (n : Nat) (ψ ψ' : qm_F) : Prop :=
  ψ' 0 2 = 0 ∧ ψ' 0 3 = Int32.ofNat n ∧ ψ' 0 13 = 1 ∧ ∀ a j, ¬ (a = 0 ∧ j ≤ 31 ∧ j ≠ 12) → ¬ (a = 2 ∧ 7 ≤ j) → ¬ (3 ≤ a ∧ a ≤ 5 ∧ 15 ≤ j) → ¬ (a = 6 ∧ 144 ≤ j) → ¬ ((a = 7 ∨ a = 8) ∧ 800 ≤ j) → ¬ ((a = 9 ∨ a = 10) ∧ j = 1) → ψ' a j = ψ a j
theorem sk_read (hF : 200000 ≤ F) (hT : qt_T φ ψ tn) (ht : tn ≤ 800) (hn : n ≤ tn) : ∃ (φ2 : qm_F) (cnt : Nat) (c : Nat → Nat), to_read F nR n (sk_f2 φ) = some φ2 ∧ φ2 4 5 = Int32.ofNat cnt ∧ (∀ j, j < n → c j < 256 ∧ ψ 1 j &&& 255 = Int32.ofNat (c j) ∧ φ2 5 j = Int32.ofNat (c j)) ∧
    yk_TK F n cnt (fun j => Int32.ofNat (c j)) (zk_T c φ2) ∧ (∀ s, s < cnt → ∃ e q l, zk_tok c n e q l (φ2 6 s) ∧ φ2 7 s = Int32.ofNat q ∧ φ2 8 s = Int32.ofNat l ∧ φ2 9 s = zk_nm c q l (φ2 6 s) ∧ q ≤ n ∧ l ≤ n) ∧
    ((∃ φ3 ψ3 fs ns W Ib Hb Hr v, pa_wholeSketch F nR n cnt (sk_f3 φ2) = some (1, φ3) ∧ mo_sketch F ψ (Int32.ofNat n) = (qb1 (mo_laysShown F ψ3) fun φ3 => mo_sketch_L142 F φ3 1) ∧ yw_P cnt (zk_T c φ2) fs ns W Ib Hb Hr v φ3 ψ3 ∧ (∀ a j, a < 4 → φ3 a j = (qm_u φ 1 1 0) a j) ∧ (∀ a j, a = 5 ∨ a = 7 ∨ a = 8 → φ3 a j = φ2 a j) ∧ sk_b n ψ ψ3) ∨
     (∃ φ3 ψ3, pa_wholeSketch F nR n cnt (sk_f3 φ2) = some (0, φ3) ∧ mo_sketch F ψ (Int32.ofNat n) = some ((-2) - φ3 10 5, qm_u ψ3 0 13 0) ∧ (∀ a j, a < 4 → φ3 a j = (qm_u φ 1 1 0) a j) ∧ sk_b n ψ ψ3)) := by
  obtain ⟨t1, t2, t3⟩ := hT
  obtain ⟨c, hc⟩ : ∃ c : Nat → Nat, ∀ j, c j < 256 ∧ ψ 1 j &&& 255 = Int32.ofNat (c j) := by
    refine ⟨fun j => (ψ 1 j &&& 255).toNatClampNeg, fun j => ?_⟩
    obtain ⟨a, h1, h2⟩ := sk_255 (ψ 1 j)
    show (ψ 1 j &&& 255).toNatClampNeg < 256 ∧ ψ 1 j &&& 255 = Int32.ofNat (ψ 1 j &&& 255).toNatClampNeg
    rw [h2, ya_nn (by omega)]
    exact ⟨h1, rfl⟩
  have e5 : ∀ j, j < n → (sk_f2 φ) 5 j = Int32.ofNat (c j) := by
    intro j hj
    rw [← (hc j).2, ← t3 j (by omega)]
    unfold sk_f2 sk_f1 sk_cp
    simp [qm_u, qm_z, show j < 800 by omega]
  obtain ⟨φ2, cnt, z1, z2, z3, z4, z5, z6⟩ := zk_main (F := F) (nR := nR) (n := n) (c := c) (φ := sk_f2 φ) (by omega) (by omega) (fun j _ => (hc j).1) (by unfold sk_f2; simp [qm_u, qm_z]) e5
  have hcn := z4.2.1
  have hc1 := z4.1
  refine ⟨φ2, cnt, c, z1, z2, fun j hj => ⟨(hc j).1, (hc j).2, by rw [z3 5 j (by omega) (by omega)]; exact e5 j hj⟩, z4, z5, ?_⟩
  have lo : ∀ a j, a < 4 → (sk_f3 φ2) a j = (qm_u φ 1 1 0) a j := by
    intro a j ha
    have : (sk_f3 φ2) a j = φ2 a j := by
      unfold sk_f3
      simp only [qm_z, qm_u, show ¬ a = 10 by omega, show ¬ a = 11 by omega, show ¬ a = 12 by omega, show ¬ a = 13 by omega, show ¬ a = 14 by omega, show ¬ a = 15 by omega, show ¬ a = 16 by omega, show ¬ a = 17 by omega, show ¬ a = 18 by omega, show ¬ a = 19 by omega, show ¬ a = 20 by omega, show ¬ a = 21 by omega, show ¬ a = 22 by omega, if_false]
    rw [this, z3 a j (by omega) (by omega)]
    unfold sk_f2 sk_f1 sk_cp
    simp only [qm_z, qm_u, show ¬ a = 9 by omega, show ¬ a = 8 by omega, show ¬ a = 7 by omega, show ¬ a = 6 by omega, show ¬ a = 5 by omega, show ¬ a = 4 by omega, if_false]
  have keep : ∀ a j, a < 10 → (sk_f3 φ2) a j = φ2 a j := by
    intro a j ha
    unfold sk_f3
    simp only [qm_z, qm_u, show ¬ a = 10 by omega, show ¬ a = 11 by omega, show ¬ a = 12 by omega, show ¬ a = 13 by omega, show ¬ a = 14 by omega, show ¬ a = 15 by omega, show ¬ a = 16 by omega, show ¬ a = 17 by omega, show ¬ a = 18 by omega, show ¬ a = 19 by omega, show ¬ a = 20 by omega, show ¬ a = 21 by omega, show ¬ a = 22 by omega, if_false]
  obtain ⟨ψA, p1, p2, p3, p4, p5, p6, p7, p8, p9, p10, p11, p12⟩ := sk_lo (F := F) (by omega) t2 ht hn
  have txA : yk_TX (fun j => Int32.ofNat (c j)) n ψA := ⟨p3, fun j hj => by rw [p12 1 j (by omega) (by omega) (by omega)]; exact (hc j).2⟩
  obtain ⟨ψB, s1, s2, s3⟩ := z6 ψA txA p4
  have s3' : ∀ a j, ¬ (a = 0 ∧ 4 ≤ j ∧ j ≤ 8) → ψB a j = ψA a j := s3
  have hS : ys_S n cnt (fun j => Int32.ofNat (c j)) (zk_T c φ2) 0 0 0 0 0 0 [] (sk_f3 φ2) ψB := by
    refine ⟨by omega, ⟨?_, ?_, fun s _ _ => ⟨?_, ?_⟩, fun s _ => ?_, ?_⟩, ⟨⟨?_, fun j hj => ?_⟩, s2, ?_, ?_, ?_⟩, ⟨?_, by simp, fun i p hp => by simp at hp, fun k hk _ => ?_, fun i j p q hp => by simp at hp⟩, ?_, ?_, ?_, ?_, by simp, by simp⟩
    · unfold sk_f3; simp [qm_u, qm_z]
    · rw [keep 4 5 (by omega)]; exact z2
    · rw [keep 6 s (by omega)]; rfl
    · rw [keep 9 s (by omega)]; rfl
    · rw [keep 7 s (by omega)]; rfl
    · unfold sk_f3; simp [qm_u, qm_z]
    · rw [s3' 0 3 (by omega)]; exact p3
    · rw [s3' 1 j (by omega)]; exact txA.2 j hj
    · rw [s3' 0 9 (by omega)]; exact p5
    · rw [s3' 0 13 (by omega)]; exact p6
    · rw [s3' 0 21 (by omega)]; exact p7
    · unfold sk_f3; simp [qm_u, qm_z]
    · rw [s3' 3 _ (by omega)]; exact p11 3 _ (by omega) (by omega) (by omega) (by omega)
    · unfold sk_f3; simp [qm_u, qm_z]
    · rw [s3' 2 11 (by omega)]; exact p10 11 (by omega) (by omega)
    · rw [s3' 0 29 (by omega)]; exact p8
    · rw [s3' 0 30 (by omega)]; exact p9
  have x0 : ∀ j, j = 1 ∨ j = 2 ∨ j = 3 ∨ j = 5 ∨ j = 6 → (sk_f3 φ2) 14 j = 0 := by
    intro j hj
    unfold sk_f3
    rcases hj with rfl | rfl | rfl | rfl | rfl <;> simp [qm_u, qm_z]
  have y0 : ∀ j, 7 ≤ j → j ≤ 13 → ψB 2 j = 0 := fun j a b => by rw [s3' 2 j (by omega)]; exact p10 j a b
  have fb : ∀ ψ3, ys_cf ψB ψ3 → sk_b n ψ ψ3 := by
    intro ψ3 h
    refine ⟨?_, ?_, ?_, fun a j w1 w2 w3 w4 w5 w6 => ?_⟩
    · rw [h 0 2 (by omega) (by omega) (by omega) (by omega) (by omega) (by omega), s3' 0 2 (by omega)]; exact p2
    · rw [h 0 3 (by omega) (by omega) (by omega) (by omega) (by omega) (by omega), s3' 0 3 (by omega)]; exact p3
    · rw [h 0 13 (by omega) (by omega) (by omega) (by omega) (by omega) (by omega), s3' 0 13 (by omega)]; exact p6
    · rw [h a j (by omega) (by omega) (by omega) (by omega) (by omega) (by omega), s3' a j (by omega), p12 a j (by omega) (by omega) (by omega)]
  rcases yw_whole (nR := nR) (by omega) z4 hS x0 y0 with ⟨φ3, ψ3, fs, ns, W, Ib, Hb, Hr, v, r1, r2, r3, r4, r5⟩ | ⟨φ3, ψ3, r1, r2, r3⟩
  · refine Or.inl ⟨φ3, ψ3, fs, ns, W, Ib, Hb, Hr, v, r1, ?_, r3, fun a j ha => by rw [r4 a j (by omega)]; exact lo a j ha, fun a j ha => by rw [r4 a j (by omega)]; exact keep a j (by omega), fb ψ3 r5⟩
    rw [p1, s1]
    simp only [yb1]
    rw [r2]
    simp only [yb2]
    rw [if_neg (by decide)]
  · obtain ⟨b1, b2, b3, b4⟩ := r3
    refine Or.inr ⟨φ3, ψ3, r1, ?_, fun a j ha => by rw [b3 a j ha]; exact lo a j ha, fb ψ3 b4⟩
    rw [p1, s1]
    simp only [yb1]
    rw [r2]
    simp only [yb2]
    rw [if_pos trivial]
    unfold mo_sketch_L142
    rw [if_neg (by decide), b1]
end S22
