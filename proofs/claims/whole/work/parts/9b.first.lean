/-! THE START keeps the relation -/
theorem qE_startX (d : Nat) (hd : 1 ≤ d) : ∃ φ : qm_F, qm_Rn d 0 0 (qm_el 1 [.ref 0]) [] (qL_h0 8) (none, c0 0 φ) ∧ φ 1 1 = 0 := by
  have h := al_SF_n d (fun _ _ => 0) (fun _ _ => none) hd
  have e : (qm_u (qm_u (qm_z (qm_u (qm_u (qm_z (qm_z (fun _ _ => (none : Option Nat)) 1 none) 2 none) 1 0 (some 2)) 0 0 (some 1)) 3 none) 0 1 (some 3)) 0 2 none) = c4_R c0_R := by
    funext a i
    have c4z : ∀ a i, (a ≠ 0 → a ≠ 1 → c4_R c0_R a i = none) := by
      intro a i h0 h1
      unfold c4_R
      have : c4_T.getD a [] = [] := by
        match a, h0, h1 with
        | 0, h, _ => exact absurd rfl h
        | 1, _, h => exact absurd rfl h
        | a + 2, _, _ => rfl
      rw [this]
      show c0_R a i = none
      unfold c0_R
      rw [if_neg h0]
    by_cases h0 : a = 0
    · subst h0
      by_cases i0 : i = 0
      · subst i0; rfl
      · by_cases i1 : i = 1
        · subst i1; rfl
        · have : c4_R c0_R 0 i = none := by
            unfold c4_R
            have : (c4_T.getD 0 []).getD i 0 = 0 := by
              match i, i0 with
              | 0, h => exact absurd rfl h
              | i + 1, _ => rfl
            rw [this]
            show c0_R 0 i = none
            unfold c0_R
            rw [if_pos rfl, if_neg i1]
          rw [this]
          simp [qm_u, qm_z, i0, i1]
    · by_cases h1 : a = 1
      · subst h1
        by_cases i0 : i = 0
        · subst i0; rfl
        · have : c4_R c0_R 1 i = none := by
            unfold c4_R
            have : (c4_T.getD 1 []).getD i 0 = 0 := by
              match i, i0 with
              | 0, h => exact absurd rfl h
              | i + 1, _ => rfl
            rw [this]
            rfl
          rw [this]
          simp [qm_u, qm_z, i0]
      · rw [c4z a i h0 h1]
        simp [qm_u, qm_z, h0, h1]
  rw [e] at h
  exact ⟨_, h, by simp [qm_u, qm_z]⟩
theorem qE_refM : (qm_u (qm_z (qm_u (qm_z (qm_u (qm_z (qm_u (qm_z (qm_u (qm_z (qm_u (qm_z (qm_u (qm_z (qm_u (qm_z (qm_u (qm_z (qm_u (qm_z (qm_u (qm_z (qm_u (qm_z (qm_u (qm_z (qm_u (qm_z (qm_u (qm_z (qm_u (qm_z (qm_u (qm_z (qm_u (qm_z (qm_u (qm_z (qm_u (qm_z (qm_u (qm_z (fun _ _ => (none : Option Nat)) 1 none) 0 1 (some 1)) 2 none) 0 14 (some 2)) 3 none) 0 15 (some 3)) 4 none) 0 16 (some 4)) 5 none) 0 17 (some 5)) 6 none) 0 18 (some 6)) 7 none) 0 19 (some 7)) 8 none) 0 20 (some 8)) 9 none) 0 22 (some 9)) 10 none) 0 23 (some 10)) 11 none) 0 24 (some 11)) 12 none) 0 25 (some 12)) 13 none) 0 26 (some 13)) 14 none) 0 27 (some 14)) 15 none) 0 32 (some 15)) 16 none) 0 33 (some 16)) 17 none) 0 34 (some 17)) 18 none) 0 35 (some 18)) 19 none) 0 39 (some 19)) 20 none) 0 46 (some 20)) 21 none) 0 47 (some 21)) = mw_R := by
  funext a i
  by_cases h0 : a = 0
  · subst h0
    match i with
    | 0 => rfl
    | 1 => rfl
    | 2 => rfl
    | 3 => rfl
    | 4 => rfl
    | 5 => rfl
    | 6 => rfl
    | 7 => rfl
    | 8 => rfl
    | 9 => rfl
    | 10 => rfl
    | 11 => rfl
    | 12 => rfl
    | 13 => rfl
    | 14 => rfl
    | 15 => rfl
    | 16 => rfl
    | 17 => rfl
    | 18 => rfl
    | 19 => rfl
    | 20 => rfl
    | 21 => rfl
    | 22 => rfl
    | 23 => rfl
    | 24 => rfl
    | 25 => rfl
    | 26 => rfl
    | 27 => rfl
    | 28 => rfl
    | 29 => rfl
    | 30 => rfl
    | 31 => rfl
    | 32 => rfl
    | 33 => rfl
    | 34 => rfl
    | 35 => rfl
    | 36 => rfl
    | 37 => rfl
    | 38 => rfl
    | 39 => rfl
    | 40 => rfl
    | 41 => rfl
    | 42 => rfl
    | 43 => rfl
    | 44 => rfl
    | 45 => rfl
    | 46 => rfl
    | 47 => rfl
    | 48 => rfl
    | 49 => rfl
    | 50 => rfl
    | i + 51 =>
      have e1 : mw_R 0 (i + 51) = none := by
        unfold mw_R
        rw [if_pos rfl, List.getD_eq_getElem?_getD, List.getElem?_eq_none (by show 51 ≤ i + 51; omega)]
        rfl
      rw [e1]
      simp [qm_u, qm_z]
  · have e1 : mw_R a i = none := by
      unfold mw_R
      rw [if_neg h0]
    rw [e1]
    simp [qm_u, qm_z, h0]
theorem qE_startM (d : Nat) : ∃ ψ : qm_F, qm_Rn d 29 0 (qm_el 1 [.ref 0]) [] (qL_h0 9) (none, mw ψ) ∧ ψ 0 12 = 0 ∧ ψ 0 2 = 0 ∧ ∀ j, ψ 21 j = 0 := by
  have h := al_Model_n d (fun _ _ => 0) (fun _ _ => none) (Nat.zero_le _)
  rw [qE_refM] at h
  exact ⟨_, h, by simp [qm_u, qm_z], by simp [qm_u, qm_z], fun j => by simp [qm_z]⟩
theorem qE_start0 {φ ψ : qm_F} (F : Nat) (h1 : φ 1 1 = 0) (h2 : ψ 0 12 = 0) (h3 : ψ 0 2 = 0) (h4 : ∀ j, ψ 21 j = 0) : qE_R F (c0 0 φ) (mw ψ) :=
  Or.inl ⟨0, φ, ψ, 0, rfl, rfl, ⟨h2, ⟨h1, h3, fun j hj => absurd hj (Nat.not_lt_zero j)⟩, Nat.zero_le _, fun j _ => h4 j⟩, Nat.zero_le _, Or.inl rfl⟩
