/-! SEMANTICS: no sketch yet -/
section S24
variable {F nR tn : Nat} {φ ψ : qm_F}
def sA_D (tn : Nat) (φ ψ : qm_F) : Prop := ψ 0 12 = 0 ∧ qt_T φ ψ tn ∧ tn ≤ 800 ∧ ∀ j, j < 40 → ψ 21 j = 0
def sA_ask (tn : Nat) (φ : qm_F) (x : Option Int32) (y : Option (Int32 × qm_F)) : Prop := ∃ v ψ', x = some v ∧ y = some (v, ψ') ∧ sA_D tn φ ψ'
theorem sA_D.t (h : sA_D tn φ ψ) (v : Int32) : sA_D tn φ (qm_u ψ 0 0 v) := ⟨h.1, ⟨h.2.1.1, h.2.1.2.1, h.2.1.2.2⟩, h.2.2.1, h.2.2.2⟩
theorem sA_g (h : sA_D tn φ ψ) (x : Int32) : mo_isGuess F (qm_u ψ 0 0 0) x = some 0 := by
  unfold mo_isGuess
  have : (qm_u ψ 0 0 0) 0 12 = 0 := h.1
  rw [this, if_pos rfl]
theorem sA_i (h : sA_D tn φ ψ) (x : Int32) : mo_isInput F (qm_u ψ 0 0 0) x = some 0 := by
  unfold mo_isInput
  have : (qm_u ψ 0 0 0) 0 12 = 0 := h.1
  rw [this, if_pos rfl]
theorem sA_h (h : sA_D tn φ ψ) (x : Int32) : mo_isHole F (qm_u ψ 0 0 0) x = some 0 := by
  unfold mo_isHole
  have : (qm_u ψ 0 0 0) 0 12 = 0 := h.1
  rw [this, if_pos rfl]
theorem sn_has (h : sA_D tn φ ψ) (x1 : Int32) : sA_ask tn φ (s0_has F nR φ x1) (mo_has F ψ x1) := ⟨(-1 : Int32), qm_u ψ 0 0 0, rfl, by
  have h12 := h.1
  unfold mo_has
  simp [qb1, qb2, h12, sA_g h, sA_i h, sA_h h], h.t 0⟩
theorem sn_hole (h : sA_D tn φ ψ) (x1 x2 : Int32) : sA_ask tn φ (s0_hole F nR φ x1 x2) (mo_hole F ψ x1 x2) := ⟨(-1 : Int32), qm_u ψ 0 0 0, rfl, by
  have h12 := h.1
  unfold mo_hole
  simp [qb1, qb2, h12, sA_g h, sA_i h, sA_h h], h.t 0⟩
theorem sn_value (h : sA_D tn φ ψ) (x1 x2 : Int32) : sA_ask tn φ (s0_value F nR φ x1 x2) (mo_value F ψ x1 x2) := ⟨(-1 : Int32), qm_u ψ 0 0 0, rfl, by
  have h12 := h.1
  unfold mo_value
  simp [qb1, qb2, h12, sA_g h, sA_i h, sA_h h], h.t 0⟩
theorem sn_cost (h : sA_D tn φ ψ) (x1 : Int32) : sA_ask tn φ (s0_cost F nR φ x1) (mo_cost F ψ x1) := ⟨(-1 : Int32), qm_u ψ 0 0 0, rfl, by
  have h12 := h.1
  unfold mo_cost
  simp [qb1, qb2, h12, sA_g h, sA_i h, sA_h h], h.t 0⟩
theorem sn_verdict (h : sA_D tn φ ψ) (x1 x2 : Int32) : sA_ask tn φ (s0_verdict F nR φ x1 x2) (mo_verdict F ψ x1 x2) := ⟨(-1 : Int32), qm_u ψ 0 0 0, rfl, by
  have h12 := h.1
  unfold mo_verdict
  simp [qb1, qb2, h12, sA_g h, sA_i h, sA_h h], h.t 0⟩
theorem sn_steps (h : sA_D tn φ ψ) (x1 x2 : Int32) : sA_ask tn φ (s0_steps F nR φ x1 x2) (mo_steps2 F ψ x1 x2) := ⟨(-1 : Int32), qm_u ψ 0 0 0, rfl, by
  have h12 := h.1
  unfold mo_steps2
  simp [qb1, qb2, h12, sA_g h, sA_i h, sA_h h], h.t 0⟩
theorem sn_ends (h : sA_D tn φ ψ) (x1 x2 x3 : Int32) : sA_ask tn φ (s0_ends F nR φ x1 x2 x3) (mo_ends F ψ x1 x2 x3) := ⟨(-1 : Int32), qm_u ψ 0 0 0, rfl, by
  have h12 := h.1
  unfold mo_ends
  simp [qb1, qb2, h12, sA_g h, sA_i h, sA_h h], h.t 0⟩
theorem sn_refuter (h : sA_D tn φ ψ) (x1 : Int32) : sA_ask tn φ (s0_refuter F nR φ x1) (mo_refuter F ψ x1) := ⟨(-2 : Int32), qm_u ψ 0 0 0, rfl, by
  have h12 := h.1
  unfold mo_refuter
  simp [qb1, qb2, h12, sA_g h, sA_i h, sA_h h], h.t 0⟩
theorem sn_guess (h : sA_D tn φ ψ) : sA_ask tn φ (s0_guess F nR φ) (mo_guess F ψ) := ⟨(-1 : Int32), qm_u ψ 0 0 0, rfl, by
  have h12 := h.1
  unfold mo_guess
  simp [qb1, qb2, h12, sA_g h, sA_i h, sA_h h], h.t 0⟩
theorem sn_check (h : sA_D tn φ ψ) : sA_ask tn φ (s0_check F nR φ) (mo_check F ψ) := ⟨(-1 : Int32), qm_u ψ 0 0 0, rfl, by
  have h12 := h.1
  unfold mo_check
  simp [qb1, qb2, h12, sA_g h, sA_i h, sA_h h], h.t 0⟩
theorem sn_go (h : sA_D tn φ ψ) (x1 : Int32) : sA_ask tn φ (s0_go F nR φ x1) (mo_go F ψ x1) := ⟨(-1 : Int32), qm_u ψ 0 0 0, rfl, by
  have h12 := h.1
  unfold mo_go
  simp [qb1, qb2, h12, sA_g h, sA_i h, sA_h h], h.t 0⟩
theorem sn_pin (h : sA_D tn φ ψ) (x1 x2 : Int32) : sA_ask tn φ (s0_pin F nR φ x1 x2) (mo_pin F ψ x1 x2) := ⟨0, qm_u ψ 0 0 0, rfl, by
  have h12 := h.1
  unfold mo_pin
  simp [qb1, qb2, h12, sA_g h, sA_i h, sA_h h], h.t 0⟩
theorem sn_keep (h : sA_D tn φ ψ) (x1 : Int32) : sA_ask tn φ (s0_keep F nR φ x1) (mo_keep F ψ x1) := ⟨(-1 : Int32), qm_u ψ 0 0 0, rfl, by
  have h12 := h.1
  unfold mo_keep
  simp [qb1, qb2, h12, sA_g h, sA_i h, sA_h h], h.t 0⟩
theorem sn_drop (h : sA_D tn φ ψ) (x1 : Int32) : sA_ask tn φ (s0_drop F nR φ x1) (mo_drop F ψ x1) := ⟨(-1 : Int32), qm_u ψ 0 0 0, rfl, by
  have h12 := h.1
  unfold mo_drop
  simp [qb1, qb2, h12, sA_g h, sA_i h, sA_h h], h.t 0⟩
theorem sn_set (h : sA_D tn φ ψ) (x1 x2 : Int32) : sA_ask tn φ (s0_set F nR φ x1 x2) (mo_set F ψ x1 x2) := ⟨(-1 : Int32), qm_u ψ 0 0 0, rfl, by
  have h12 := h.1
  unfold mo_set
  simp [qb1, qb2, h12, sA_g h, sA_i h, sA_h h], h.t 0⟩
theorem sn_many (h : sA_D tn φ ψ) (x1 : Int32) : sA_ask tn φ (s0_many F nR φ x1) (mo_many F ψ x1) := ⟨(-1 : Int32), qm_u ψ 0 0 0, rfl, by
  have h12 := h.1
  unfold mo_many
  simp [qb1, qb2, h12, sA_g h, sA_i h, sA_h h], h.t 0⟩
theorem sn_by (h : sA_D tn φ ψ) (x1 x2 : Int32) : sA_ask tn φ (s0_by F nR φ x1 x2) (mo_by F ψ x1 x2) := ⟨(-1 : Int32), qm_u ψ 0 0 0, rfl, by
  have h12 := h.1
  unfold mo_by
  simp [qb1, qb2, h12, sA_g h, sA_i h, sA_h h], h.t 0⟩
theorem sn_refutes (h : sA_D tn φ ψ) (x1 : Int32) : sA_ask tn φ (s0_refutes F nR φ x1) (mo_refutes F ψ x1) := ⟨(-1 : Int32), qm_u ψ 0 0 0, rfl, by
  have h12 := h.1
  unfold mo_refutes
  simp [qb1, qb2, h12, sA_g h, sA_i h, sA_h h], h.t 0⟩
theorem sn_sharpest (h : sA_D tn φ ψ) (x1 : Int32) : sA_ask tn φ (s0_sharpest F nR φ x1) (mo_sharpest F ψ x1) := ⟨(-1 : Int32), qm_u ψ 0 0 0, rfl, by
  have h12 := h.1
  unfold mo_sharpest
  simp [qb1, qb2, h12, sA_g h, sA_i h, sA_h h], h.t 0⟩
theorem sn_free (h : sA_D tn φ ψ) (x1 x2 : Int32) : sA_ask tn φ (s0_free F nR φ x1 x2) (mo_free F ψ x1 x2) := ⟨(-1 : Int32), qm_u ψ 0 0 0, rfl, by
  have h12 := h.1
  unfold mo_free
  simp [qb1, qb2, h12, sA_g h, sA_i h, sA_h h], h.t 0⟩
theorem sn_needed (h : sA_D tn φ ψ) (x1 : Int32) : sA_ask tn φ (s0_needed F nR φ x1) (mo_needed F ψ x1) := ⟨(-1 : Int32), qm_u ψ 0 0 0, rfl, by
  have h12 := h.1
  unfold mo_needed
  simp [qb1, qb2, h12, sA_g h, sA_i h, sA_h h], h.t 0⟩
theorem sn_core (h : sA_D tn φ ψ) (x1 : Int32) : sA_ask tn φ (s0_core F nR φ x1) (mo_core F ψ x1) := ⟨(-1 : Int32), qm_u ψ 0 0 0, rfl, by
  have h12 := h.1
  unfold mo_core
  simp [qb1, qb2, h12, sA_g h, sA_i h, sA_h h], h.t 0⟩
theorem sn_kinds (h : sA_D tn φ ψ) : sA_ask tn φ (s0_kinds F nR φ) (mo_kinds F ψ) := ⟨(-1 : Int32), qm_u ψ 0 0 0, rfl, by
  have h12 := h.1
  unfold mo_kinds
  simp [qb1, qb2, h12, sA_g h, sA_i h, sA_h h], h.t 0⟩
theorem sn_alike (h : sA_D tn φ ψ) (x1 x2 : Int32) : sA_ask tn φ (s0_alike F nR φ x1 x2) (mo_alike F ψ x1 x2) := ⟨0, qm_u ψ 0 0 0, rfl, by
  have h12 := h.1
  unfold mo_alike
  simp [qb1, qb2, h12, sA_g h, sA_i h, sA_h h], h.t 0⟩
theorem sn_shown (h : sA_D tn φ ψ) (x1 x2 : Int32) : sA_ask tn φ (s0_shown F nR φ x1 x2) (mo_shown F ψ x1 x2) := ⟨(-1 : Int32), qm_u ψ 0 0 0, rfl, by
  have h12 := h.1
  unfold mo_shown
  simp [qb1, qb2, h12, sA_g h, sA_i h, sA_h h], h.t 0⟩
theorem sn_state (h : sA_D tn φ ψ) (x1 : Int32) : sA_ask tn φ (s0_state F nR φ x1) (mo_state F ψ x1) := by
  have h12 := h.1
  unfold s0_state mo_state ta_size
  by_cases q : x1 = 5
  · rw [if_neg (not_not_intro q), if_neg (not_not_intro q)]
    exact ⟨φ 1 1, qm_u ψ 0 0 0, rfl, by rw [h.2.1.1, h.2.1.2.1], h.t 0⟩
  · rw [if_pos q, if_pos q, h12, if_neg (by decide)]
    exact ⟨-1, qm_u ψ 0 0 0, rfl, rfl, h.t 0⟩
end S24
