/-! SEMANTICS: the reference copies what it has read -/
section S17
variable {F : Nat} {ψ : qm_F}
theorem cp_2 (hF : 2000 ≤ F) : ∃ ψ', mo_copies F ψ = mo_copies_L31 F F ψ' 0 ∧ (∀ j, j < 7 → ψ' 2 j = ψ 2 (7 + j)) ∧ ∀ a j, ¬ (a = 2 ∧ j < 7) → ψ' a j = ψ a j := by
  have : ∀ (n m i : Nat) (ψ1 : qm_F), n + i = 7 → n + 1 ≤ m → (∀ j, j < i → ψ1 2 j = ψ 2 (7 + j)) → (∀ a j, ¬ (a = 2 ∧ j < i) → ψ1 a j = ψ a j) → ∃ ψ', mo_copies_L2 F m ψ1 (Int32.ofNat i) = mo_copies_L31 F F ψ' 0 ∧ (∀ j, j < 7 → ψ' 2 j = ψ 2 (7 + j)) ∧ ∀ a j, ¬ (a = 2 ∧ j < 7) → ψ' a j = ψ a j := by
    intro n
    induction n with
    | zero =>
      intro m i ψ1 h1 h2 h3 h4
      obtain ⟨m, rfl⟩ : ∃ z, m = z + 1 := ⟨m - 1, by omega⟩
      obtain rfl : i = 7 := by omega
      refine ⟨ψ1, ?_, h3, h4⟩
      conv => lhs; unfold mo_copies_L2
      rw [if_pos (by decide)]
    | succ n ih =>
      intro m i ψ1 h1 h2 h3 h4
      obtain ⟨m, rfl⟩ : ∃ z, m = z + 1 := ⟨m - 1, by omega⟩
      unfold mo_copies_L2
      rw [if_neg (by rw [show (7 : Int32) = Int32.ofNat 7 from rfl, ya_le (by omega) (by omega)]; omega), show (7 : Int32) + Int32.ofNat i = Int32.ofNat (7 + i) from ya_add 7 i, ya_in (k := 7 + i) (by omega) (by omega), ya_in (k := i) (by omega) (by omega), ya_nn (by omega), ya_nn (by omega), ya_add1]
      simp only [yg1]
      refine ih m (i + 1) _ (by omega) (by omega) (fun j hj => ?_) (fun a j z => ?_)
      · by_cases w : j = i
        · subst w; rw [ya_u_same]; exact h4 _ _ (by omega)
        · rw [ya_u_i _ _ _ _ w]; exact h3 j (by omega)
      · rw [← h4 a j (by omega)]
        (unfold qm_u; repeat' split) <;> first | rfl | omega
  exact this 7 F 0 ψ (by omega) (by omega) (fun j hj => by omega) (fun _ _ _ => rfl)
theorem cp_31 (hF : 2000 ≤ F) : ∃ ψ', mo_copies_L31 F F ψ 0 = mo_copies_L90 F F ψ' 0 ∧ (∀ a j, 3 ≤ a → a ≤ 5 → j < 15 → ψ' a j = ψ a (15 + j)) ∧ ∀ a j, ¬ (3 ≤ a ∧ a ≤ 5 ∧ j < 15) → ψ' a j = ψ a j := by
  have : ∀ (n m i : Nat) (ψ1 : qm_F), n + i = 15 → n + 1 ≤ m → (∀ a j, 3 ≤ a → a ≤ 5 → j < i → ψ1 a j = ψ a (15 + j)) → (∀ a j, ¬ (3 ≤ a ∧ a ≤ 5 ∧ j < i) → ψ1 a j = ψ a j) → ∃ ψ', mo_copies_L31 F m ψ1 (Int32.ofNat i) = mo_copies_L90 F F ψ' 0 ∧ (∀ a j, 3 ≤ a → a ≤ 5 → j < 15 → ψ' a j = ψ a (15 + j)) ∧ ∀ a j, ¬ (3 ≤ a ∧ a ≤ 5 ∧ j < 15) → ψ' a j = ψ a j := by
    intro n
    induction n with
    | zero =>
      intro m i ψ1 h1 h2 h3 h4
      obtain ⟨m, rfl⟩ : ∃ z, m = z + 1 := ⟨m - 1, by omega⟩
      obtain rfl : i = 15 := by omega
      refine ⟨ψ1, ?_, h3, h4⟩
      conv => lhs; unfold mo_copies_L31
      rw [if_pos (by decide)]
    | succ n ih =>
      intro m i ψ1 h1 h2 h3 h4
      obtain ⟨m, rfl⟩ : ∃ z, m = z + 1 := ⟨m - 1, by omega⟩
      unfold mo_copies_L31
      rw [if_neg (by rw [show (15 : Int32) = Int32.ofNat 15 from rfl, ya_le (by omega) (by omega)]; omega), show (15 : Int32) + Int32.ofNat i = Int32.ofNat (15 + i) from ya_add 15 i, ya_in (k := 15 + i) (by omega) (by omega), ya_in (k := i) (by omega) (by omega), ya_nn (k := i) (by omega), ya_nn (k := 15 + i) (by omega), ya_add1]
      simp only [yg1]
      refine ih m (i + 1) _ (by omega) (by omega) (fun a j x y hj => ?_) (fun a j z => ?_)
      · by_cases w : j = i
        · subst w
          rcases (by omega : a = 3 ∨ a = 4 ∨ a = 5) with rfl | rfl | rfl
          · simp [qm_u]; exact h4 _ _ (by omega)
          · simp [qm_u]; exact h4 _ _ (by omega)
          · simp [qm_u]; exact h4 _ _ (by omega)
        · rw [ya_u_i _ _ _ _ w, ya_u_i _ _ _ _ w, ya_u_i _ _ _ _ w]; exact h3 a j x y (by omega)
      · rw [← h4 a j (by omega)]
        (unfold qm_u; repeat' split) <;> first | rfl | omega
  exact this 15 F 0 ψ (by omega) (by omega) (fun a j _ _ hj => by omega) (fun _ _ _ => rfl)
theorem cp_90 (hF : 2000 ≤ F) : ∃ ψ', mo_copies_L90 F F ψ 0 = mo_copies_L121 F F ψ' 0 ∧ (∀ j, j < 144 → ψ' 6 j = ψ 6 (144 + j)) ∧ ∀ a j, ¬ (a = 6 ∧ j < 144) → ψ' a j = ψ a j := by
  have : ∀ (n m i : Nat) (ψ1 : qm_F), n + i = 144 → n + 1 ≤ m → (∀ j, j < i → ψ1 6 j = ψ 6 (144 + j)) → (∀ a j, ¬ (a = 6 ∧ j < i) → ψ1 a j = ψ a j) → ∃ ψ', mo_copies_L90 F m ψ1 (Int32.ofNat i) = mo_copies_L121 F F ψ' 0 ∧ (∀ j, j < 144 → ψ' 6 j = ψ 6 (144 + j)) ∧ ∀ a j, ¬ (a = 6 ∧ j < 144) → ψ' a j = ψ a j := by
    intro n
    induction n with
    | zero =>
      intro m i ψ1 h1 h2 h3 h4
      obtain ⟨m, rfl⟩ : ∃ z, m = z + 1 := ⟨m - 1, by omega⟩
      obtain rfl : i = 144 := by omega
      refine ⟨ψ1, ?_, h3, h4⟩
      conv => lhs; unfold mo_copies_L90
      rw [if_pos (by decide)]
    | succ n ih =>
      intro m i ψ1 h1 h2 h3 h4
      obtain ⟨m, rfl⟩ : ∃ z, m = z + 1 := ⟨m - 1, by omega⟩
      unfold mo_copies_L90
      rw [if_neg (by rw [show (144 : Int32) = Int32.ofNat 144 from rfl, ya_le (by omega) (by omega)]; omega), show (144 : Int32) + Int32.ofNat i = Int32.ofNat (144 + i) from ya_add 144 i, ya_in (k := 144 + i) (by omega) (by omega), ya_in (k := i) (by omega) (by omega), ya_nn (k := i) (by omega), ya_nn (k := 144 + i) (by omega), ya_add1]
      simp only [yg1]
      refine ih m (i + 1) _ (by omega) (by omega) (fun j hj => ?_) (fun a j z => ?_)
      · by_cases w : j = i
        · subst w; rw [ya_u_same]; exact h4 _ _ (by omega)
        · rw [ya_u_i _ _ _ _ w]; exact h3 j (by omega)
      · rw [← h4 a j (by omega)]
        (unfold qm_u; repeat' split) <;> first | rfl | omega
  exact this 144 F 0 ψ (by omega) (by omega) (fun j hj => by omega) (fun _ _ _ => rfl)
def cp_v (a : Nat) (x : Int32) : Int32 := if a = 11 then qm_by x else x
theorem cp_121 (hF : 2000 ≤ F) : ∃ ψ', mo_copies_L121 F F ψ 0 = some ψ' ∧ (∀ a j, a = 7 ∨ a = 8 ∨ a = 11 ∨ a = 12 ∨ a = 13 → j < 800 → ψ' a j = cp_v a (ψ a (800 + j))) ∧ ψ' 9 0 = ψ 9 1 ∧ ψ' 10 0 = ψ 10 1 ∧ ψ' 14 0 = ψ 14 1 ∧ ∀ a j, ¬ ((a = 7 ∨ a = 8 ∨ a = 11 ∨ a = 12 ∨ a = 13) ∧ j < 800) → ¬ ((a = 9 ∨ a = 10 ∨ a = 14) ∧ j = 0) → ψ' a j = ψ a j := by
  have : ∀ (n m i : Nat) (ψ1 : qm_F), n + i = 800 → n + 1 ≤ m → (∀ a j, a = 7 ∨ a = 8 ∨ a = 11 ∨ a = 12 ∨ a = 13 → j < i → ψ1 a j = cp_v a (ψ a (800 + j))) → (∀ a j, ¬ ((a = 7 ∨ a = 8 ∨ a = 11 ∨ a = 12 ∨ a = 13) ∧ j < i) → ψ1 a j = ψ a j) → ∃ ψ', mo_copies_L121 F m ψ1 (Int32.ofNat i) = some ψ' ∧ (∀ a j, a = 7 ∨ a = 8 ∨ a = 11 ∨ a = 12 ∨ a = 13 → j < 800 → ψ' a j = cp_v a (ψ a (800 + j))) ∧ ψ' 9 0 = ψ 9 1 ∧ ψ' 10 0 = ψ 10 1 ∧ ψ' 14 0 = ψ 14 1 ∧ ∀ a j, ¬ ((a = 7 ∨ a = 8 ∨ a = 11 ∨ a = 12 ∨ a = 13) ∧ j < 800) → ¬ ((a = 9 ∨ a = 10 ∨ a = 14) ∧ j = 0) → ψ' a j = ψ a j := by
    intro n
    induction n with
    | zero =>
      intro m i ψ1 h1 h2 h3 h4
      obtain ⟨m, rfl⟩ : ∃ z, m = z + 1 := ⟨m - 1, by omega⟩
      obtain rfl : i = 800 := by omega
      refine ⟨qm_u (qm_u (qm_u ψ1 9 0 (ψ1 9 1)) 10 0 (ψ1 10 1)) 14 0 (ψ1 14 1), ?_, fun a j ha hj => ?_, ?_, ?_, ?_, fun a j x y => ?_⟩
      · unfold mo_copies_L121
        rw [if_pos (by decide)]
      · rw [ya_u_a _ _ _ _ (by omega), ya_u_a _ _ _ _ (by omega), ya_u_a _ _ _ _ (by omega)]; exact h3 a j ha hj
      · rw [← h4 9 1 (by omega)]; simp [qm_u]
      · rw [← h4 10 1 (by omega)]; simp [qm_u]
      · rw [← h4 14 1 (by omega)]; simp [qm_u]
      · rw [← h4 a j x]
        (unfold qm_u; repeat' split) <;> first | rfl | omega
    | succ n ih =>
      intro m i ψ1 h1 h2 h3 h4
      obtain ⟨m, rfl⟩ : ∃ z, m = z + 1 := ⟨m - 1, by omega⟩
      unfold mo_copies_L121
      rw [if_neg (by rw [show (800 : Int32) = Int32.ofNat 800 from rfl, ya_le (by omega) (by omega)]; omega), show (800 : Int32) + Int32.ofNat i = Int32.ofNat (800 + i) from ya_add 800 i, ya_in (k := 800 + i) (by omega) (by omega), ya_in (k := i) (by omega) (by omega), ya_nn (k := i) (by omega), ya_nn (k := 800 + i) (by omega), ya_add1]
      simp only [yg1]
      refine ih m (i + 1) _ (by omega) (by omega) (fun a j x hj => ?_) (fun a j z => ?_)
      · by_cases w : j = i
        · subst w
          unfold cp_v
          rcases x with rfl | rfl | rfl | rfl | rfl
          · simp [qm_u]; exact h4 _ _ (by omega)
          · simp [qm_u]; exact h4 _ _ (by omega)
          · simp [qm_u]; rw [h4 _ _ (by omega)]
          · simp [qm_u]; exact h4 _ _ (by omega)
          · simp [qm_u]; exact h4 _ _ (by omega)
        · rw [ya_u_i _ _ _ _ w, ya_u_i _ _ _ _ w, ya_u_i _ _ _ _ w, ya_u_i _ _ _ _ w, ya_u_i _ _ _ _ w]; exact h3 a j x (by omega)
      · rw [← h4 a j (by omega)]
        (unfold qm_u; repeat' split) <;> first | rfl | omega
  exact this 800 F 0 ψ (by omega) (by omega) (fun a j _ hj => by omega) (fun _ _ _ => rfl)
/-- all of it -/
theorem cp_all (hF : 2000 ≤ F) (ψ : qm_F) : ∃ ψ', mo_copies F ψ = some ψ' ∧ (∀ j, j < 7 → ψ' 2 j = ψ 2 (7 + j)) ∧ (∀ a j, 3 ≤ a → a ≤ 5 → j < 15 → ψ' a j = ψ a (15 + j)) ∧ (∀ j, j < 144 → ψ' 6 j = ψ 6 (144 + j)) ∧ (∀ a j, a = 7 ∨ a = 8 ∨ a = 11 ∨ a = 12 ∨ a = 13 → j < 800 → ψ' a j = cp_v a (ψ a (800 + j))) ∧ ψ' 9 0 = ψ 9 1 ∧ ψ' 10 0 = ψ 10 1 ∧ ψ' 14 0 = ψ 14 1 ∧ ∀ a j, ¬ (2 ≤ a ∧ a ≤ 14) → ψ' a j = ψ a j := by
  obtain ⟨ψ1, a1, a2, a3⟩ := cp_2 (ψ := ψ) hF
  obtain ⟨ψ2, b1, b2, b3⟩ := cp_31 (ψ := ψ1) hF
  obtain ⟨ψ3, c1, c2, c3⟩ := cp_90 (ψ := ψ2) hF
  obtain ⟨ψ4, d1, d2, d3, d4, d5, d6⟩ := cp_121 (ψ := ψ3) hF
  refine ⟨ψ4, by rw [a1, b1, c1, d1], fun j hj => ?_, fun a j x y hj => ?_, fun j hj => ?_, fun a j x hj => ?_, ?_, ?_, ?_, fun a j x => ?_⟩
  · rw [d6 2 j (by omega) (by omega), c3 2 j (by omega), b3 2 j (by omega), a2 j hj]
  · rw [d6 a j (by omega) (by omega), c3 a j (by omega), b2 a j x y hj, a3 a _ (by omega)]
  · rw [d6 6 j (by omega) (by omega), c2 j hj, b3 6 _ (by omega), a3 6 _ (by omega)]
  · rw [d2 a j x hj, c3 a _ (by omega), b3 a _ (by omega), a3 a _ (by omega)]
  · rw [d3, c3 9 1 (by omega), b3 9 1 (by omega), a3 9 1 (by omega)]
  · rw [d4, c3 10 1 (by omega), b3 10 1 (by omega), a3 10 1 (by omega)]
  · rw [d5, c3 14 1 (by omega), b3 14 1 (by omega), a3 14 1 (by omega)]
  · rw [d6 a j (by omega) (by omega), c3 a j (by omega), b3 a j (by omega), a3 a j (by omega)]
end S17
