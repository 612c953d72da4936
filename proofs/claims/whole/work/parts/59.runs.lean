/-! what the two constructors make -/
theorem law_runX (d : Nat) (hd : 1 ≤ d) : ∃ hX : qm_H, qm_Rn d 0 0 (qm_el 1 [.ref 0]) [] (qL_h0 8) (none, hX) ∧ hX.1 = [(0, 8), (0, 5), (1, 800), (2, 0)] ∧ (∀ a j, hX.2.1 a j = 0) := by
  refine ⟨_, al_SF_n d _ _ hd, rfl, fun a j => ?_⟩
  simp [qm_z, qm_u]
theorem law_runM (d : Nat) : ∃ hM : qm_H, qm_Rn d 29 0 (qm_el 1 [.ref 0]) [] (qL_h0 9) (none, hM) ∧ hM.1 = [(0, 9), (2, 800), (1, 14), (1, 30), (1, 30), (1, 30), (1, 288), (1, 1600), (1, 1600), (1, 2), (1, 2), (2, 1600), (1, 1600), (1, 1600), (1, 2), (1, 5), (1, 128), (1, 15), (1, 64), (2, 16384), (1, 40), (3, 40)] :=
  ⟨_, al_Model_n d _ _ (Nat.zero_le _), rfl⟩
