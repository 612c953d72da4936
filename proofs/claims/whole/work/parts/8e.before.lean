/-! SEMANTICS: sketch, up to the reading -/
section S21
variable {F nR n tn : Nat} {φ ψ : qm_F}
theorem sk_255 (x : Int32) : ∃ a, a < 256 ∧ x &&& 255 = Int32.ofNat a := by
  refine ⟨(x &&& 255).toBitVec.toNat, ?_, ?_⟩
  · rw [Int32.toBitVec_and, BitVec.toNat_and]
    exact Nat.lt_of_le_of_lt Nat.and_le_right (by decide)
  · apply Int32.toBitVec_inj.mp
    apply BitVec.eq_of_toNat_eq
    show _ = (x &&& 255).toBitVec.toNat % 4294967296
    rw [Nat.mod_eq_of_lt (x &&& 255).toBitVec.isLt]
/-- what the reference has changed before it reads -/
def sk_a (n : Nat) (ψ ψ' : qm_F) : Prop :=
  ψ' 0 2 = 0 ∧ ψ' 0 3 = Int32.ofNat n ∧ ψ' 0 5 = 0 ∧ ψ' 0 9 = 0 ∧ ψ' 0 13 = 1 ∧ ψ' 0 21 = 0 ∧ ψ' 0 29 = 0 ∧ ψ' 0 30 = 0 ∧ (∀ j, 7 ≤ j → j ≤ 13 → ψ' 2 j = 0) ∧ (∀ a j, 3 ≤ a → a ≤ 5 → 15 ≤ j → j < 30 → ψ' a j = 0) ∧
  ∀ a j, ¬ (a = 0 ∧ (j = 0 ∨ j = 2 ∨ j = 3 ∨ j = 5 ∨ j = 9 ∨ j = 13 ∨ j = 21 ∨ j = 29 ∨ j = 30)) → ¬ (a = 2 ∧ 7 ≤ j) → ¬ (3 ≤ a ∧ a ≤ 5 ∧ 15 ≤ j) → ψ' a j = ψ a j
theorem sk_bad0 {x1 : Int32} (h : x1 < 0 ∨ ψ 0 2 < x1) : mo_sketch F ψ x1 = some (-1, qm_u ψ 0 0 0) := by
  unfold mo_sketch
  rw [show (0 : Int64) = Int32.toInt64 0 from by decide, ys_wi]
  simp only [yb1]
  have : (if x1 < 0 then (0 : Int32) else if x1 ≤ ψ 0 2 then 1 else 0) = 0 := by
    rcases h with h | h
    · rw [if_pos h]
    · by_cases z : x1 < 0
      · rw [if_pos z]
      · rw [if_neg z, if_neg (Int32.not_le.mpr h)]
  rw [this, if_neg (by decide)]
theorem sk_lo (hF : 2000 ≤ F) (h2 : ψ 0 2 = Int32.ofNat tn) (ht : tn ≤ 800) (hn : n ≤ tn) : ∃ ψ', mo_sketch F ψ (Int32.ofNat n) = (qb1 (mo_steps F ψ') fun φ1 => qb2 (mo_reads F φ1) fun y1 φ2 => if y1 = 0 then mo_sketch_L142 F φ2 y1 else qb1 (mo_laysShown F φ2) fun φ3 => mo_sketch_L142 F φ3 y1) ∧ sk_a n ψ ψ' := by
  obtain ⟨ψ1, e1⟩ : ∃ ψ1, ψ1 = qm_u (qm_u (qm_u (qm_u (qm_u (qm_u (qm_u (qm_u (qm_u ψ 0 0 0) 0 2 0) 0 3 (Int32.ofNat n)) 0 5 0) 0 9 0) 0 13 1) 0 21 0) 0 29 0) 0 30 0 := ⟨_, rfl⟩
  have c1 : ψ1 0 2 = 0 ∧ ψ1 0 3 = Int32.ofNat n ∧ ψ1 0 5 = 0 ∧ ψ1 0 9 = 0 ∧ ψ1 0 13 = 1 ∧ ψ1 0 21 = 0 ∧ ψ1 0 29 = 0 ∧ ψ1 0 30 = 0 := by rw [e1]; simp [qm_u]
  have f1 : ∀ a j, ¬ (a = 0 ∧ (j = 0 ∨ j = 2 ∨ j = 3 ∨ j = 5 ∨ j = 9 ∨ j = 13 ∨ j = 21 ∨ j = 29 ∨ j = 30)) → ψ1 a j = ψ a j := by
    intro a j z
    rw [e1]
    by_cases y : a = 0
    · subst y
      rw [ya_u_i _ _ _ _ (by omega), ya_u_i _ _ _ _ (by omega), ya_u_i _ _ _ _ (by omega), ya_u_i _ _ _ _ (by omega), ya_u_i _ _ _ _ (by omega), ya_u_i _ _ _ _ (by omega), ya_u_i _ _ _ _ (by omega), ya_u_i _ _ _ _ (by omega), ya_u_i _ _ _ _ (by omega)]
    · rw [ya_u_a _ _ _ _ y, ya_u_a _ _ _ _ y, ya_u_a _ _ _ _ y, ya_u_a _ _ _ _ y, ya_u_a _ _ _ _ y, ya_u_a _ _ _ _ y, ya_u_a _ _ _ _ y, ya_u_a _ _ _ _ y, ya_u_a _ _ _ _ y]
  have l63 : ∀ (k m i : Nat) (ψ2 : qm_F), k + i = 7 → k + 1 ≤ m → (∀ j, 7 ≤ j → j < 7 + i → ψ2 2 j = 0) → (∀ a j, ¬ (a = 2 ∧ 7 ≤ j) → ψ2 a j = ψ1 a j) → ∃ ψ', mo_sketch_L63 F m ψ2 (Int32.ofNat i) = mo_sketch_L83 F F ψ' (Int32.ofNat 0) ∧ (∀ j, 7 ≤ j → j ≤ 13 → ψ' 2 j = 0) ∧ (∀ a j, ¬ (a = 2 ∧ 7 ≤ j) → ψ' a j = ψ1 a j) := by
    intro k
    induction k with
    | zero =>
      intro m i ψ2 h1 h2 h3 h4
      obtain ⟨m, rfl⟩ : ∃ z, m = z + 1 := ⟨m - 1, by omega⟩
      obtain rfl : i = 7 := by omega
      refine ⟨ψ2, ?_, fun j a b => h3 j a (by omega), h4⟩
      conv => lhs; unfold mo_sketch_L63
      rw [if_pos (by decide)]
      rfl
    | succ k ih =>
      intro m i ψ2 h1 h2 h3 h4
      obtain ⟨m, rfl⟩ : ∃ z, m = z + 1 := ⟨m - 1, by omega⟩
      unfold mo_sketch_L63 mo_tells
      rw [if_neg (by rw [show (7 : Int32) = Int32.ofNat 7 from rfl, ya_le (by omega) (by omega)]; omega), h4 0 13 (by omega), c1.2.2.2.2.1, show (7 : Int32) * 1 = Int32.ofNat 7 by decide, ya_add, ya_in (by omega) (by omega), ya_nn (by omega), ya_add1]
      simp only [yg1, yb1]
      refine ih m (i + 1) _ (by omega) (by omega) (fun j a b => ?_) (fun a j z => ?_)
      · by_cases w : j = 7 + i
        · subst w; exact ya_u_same _ _ _ _
        · rw [ya_u_i _ _ _ _ w]; exact h3 j a (by omega)
      · rw [← h4 a j z]
        (unfold qm_u; repeat' split) <;> first | rfl | omega
  obtain ⟨ψ2, a1, a2, a3⟩ := l63 7 F 0 ψ1 (by omega) (by omega) (fun j a b => by omega) (fun _ _ _ => rfl)
  have l83 : ∀ (k m i : Nat) (ψ3 : qm_F), k + i = 15 → k + 1 ≤ m → (∀ a j, 3 ≤ a → a ≤ 5 → 15 ≤ j → j < 15 + i → ψ3 a j = 0) → (∀ a j, ¬ (3 ≤ a ∧ a ≤ 5 ∧ 15 ≤ j) → ψ3 a j = ψ2 a j) → ∃ ψ', mo_sketch_L83 F m ψ3 (Int32.ofNat i) = (qb1 (mo_steps F ψ') fun φ1 => qb2 (mo_reads F φ1) fun y1 φ2 => if y1 = 0 then mo_sketch_L142 F φ2 y1 else qb1 (mo_laysShown F φ2) fun φ3 => mo_sketch_L142 F φ3 y1) ∧ (∀ a j, 3 ≤ a → a ≤ 5 → 15 ≤ j → j < 30 → ψ' a j = 0) ∧ (∀ a j, ¬ (3 ≤ a ∧ a ≤ 5 ∧ 15 ≤ j) → ψ' a j = ψ2 a j) := by
    intro k
    induction k with
    | zero =>
      intro m i ψ3 h1 h2 h3 h4
      obtain ⟨m, rfl⟩ : ∃ z, m = z + 1 := ⟨m - 1, by omega⟩
      obtain rfl : i = 15 := by omega
      refine ⟨ψ3, ?_, fun a j x y z w => h3 a j x y z (by omega), h4⟩
      conv => lhs; unfold mo_sketch_L83
      rw [if_pos (by decide)]
    | succ k ih =>
      intro m i ψ3 h1 h2 h3 h4
      obtain ⟨m, rfl⟩ : ∃ z, m = z + 1 := ⟨m - 1, by omega⟩
      unfold mo_sketch_L83
      rw [if_neg (by rw [show (15 : Int32) = Int32.ofNat 15 from rfl, ya_le (by omega) (by omega)]; omega), show (15 : Int32) + Int32.ofNat i = Int32.ofNat (15 + i) from ya_add 15 i, ya_in (by omega) (by omega), ya_nn (by omega), ya_add1]
      simp only [yg1]
      refine ih m (i + 1) _ (by omega) (by omega) (fun a j x y z w => ?_) (fun a j z => ?_)
      · by_cases e : j = 15 + i
        · subst e
          rcases (by omega : a = 3 ∨ a = 4 ∨ a = 5) with rfl | rfl | rfl <;> simp [qm_u]
        · rw [ya_u_i _ _ _ _ e, ya_u_i _ _ _ _ e, ya_u_i _ _ _ _ e]; exact h3 a j x y z (by omega)
      · rw [← h4 a j z]
        (unfold qm_u; repeat' split) <;> first | rfl | omega
  obtain ⟨ψ3, b1, b2, b3⟩ := l83 15 F 0 ψ2 (by omega) (by omega) (fun a j x y z w => by omega) (fun _ _ _ => rfl)
  refine ⟨ψ3, ?_, ?_⟩
  · unfold mo_sketch
    rw [show (0 : Int64) = Int32.toInt64 0 from by decide, ys_wi]
    simp only [yb1]
    rw [h2, show (if Int32.ofNat n < 0 then (0 : Int32) else if Int32.ofNat n ≤ Int32.ofNat tn then 1 else 0) = 1 by
      rw [if_neg (ya_lt0 (by omega)), if_pos ((ya_le (by omega) (by omega)).mpr hn)], if_pos (by decide), ← e1]
    exact a1.trans b1
  · obtain ⟨d1, d2, d3, d4, d5, d6, d7, d8⟩ := c1
    have g : ∀ j, ψ3 0 j = ψ1 0 j := fun j => by rw [b3 0 j (by omega), a3 0 j (by omega)]
    refine ⟨by rw [g]; exact d1, by rw [g]; exact d2, by rw [g]; exact d3, by rw [g]; exact d4, by rw [g]; exact d5, by rw [g]; exact d6, by rw [g]; exact d7, by rw [g]; exact d8, fun j x y => by rw [b3 2 j (by omega)]; exact a2 j x y, b2, fun a j x y z => by rw [b3 a j z, a3 a j y, f1 a j x]⟩
end S21
