/-! SEMANTICS: the reference lays the tokens that are shown -/
section S18
variable {F n cnt fs : Nat} {ψ T : qm_F} {b : Nat → Int32}
def ls_f (ψ ψ' : qm_F) : Prop := ∀ a j, ¬ (a = 0 ∧ 4 ≤ j ∧ j ≤ 8) → ¬ ((a = 11 ∨ a = 12 ∨ a = 13) ∧ 800 ≤ j) → ¬ (a = 14 ∧ j = 1) → ψ' a j = ψ a j
theorem ls_f.trans {ψ ψ' ψ'' : qm_F} (h : ls_f ψ ψ') (h' : ls_f ψ' ψ'') : ls_f ψ ψ'' := fun a j x y z => (h' a j x y z).trans (h a j x y z)
theorem ls_f.tx {ψ ψ' : qm_F} (h : ls_f ψ ψ') (hT : yk_TX b n ψ) : yk_TX b n ψ' := ⟨by rw [h 0 3 (by omega) (by omega) (by omega)]; exact hT.1, fun j hj => by rw [h 1 j (by omega) (by omega) (by omega)]; exact hT.2 j hj⟩
theorem ls_59 (hK : yk_TK F n cnt b T) (hl : T 0 (cnt - 1) = 0) : ∀ (k m t : Nat) (ψ1 : qm_F), k + t + 1 = cnt → fs ≤ t → k + 1 ≤ m → yk_TX b n ψ1 → yk_at T t ψ1 → ψ1 0 13 = 1 → ψ1 14 1 = Int32.ofNat (t - fs) → (∀ j, j < t - fs → ψ1 12 (800 + j) = T 1 (fs + j) ∧ ψ1 13 (800 + j) = T 2 (fs + j)) →
    ∃ ψ', mo_laysShown_L59 F m ψ1 = some ψ' ∧ ls_f ψ1 ψ' ∧ (∀ j, ψ' 11 j = ψ1 11 j) ∧ ψ' 14 1 = Int32.ofNat (cnt - 1 - fs) ∧ (∀ j, j < cnt - 1 - fs → ψ' 12 (800 + j) = T 1 (fs + j) ∧ ψ' 13 (800 + j) = T 2 (fs + j)) := by
  obtain ⟨K1, K2, K3, K4, K5, K6, K7, K8, K9, K10, K11⟩ := hK
  intro k
  induction k with
  | zero =>
    intro m t ψ1 h1 hf h2 h3 h4 h5 h6 h7
    obtain ⟨m, rfl⟩ : ∃ z, m = z + 1 := ⟨m - 1, by omega⟩
    have et : t = cnt - 1 := by omega
    refine ⟨ψ1, ?_, fun _ _ _ _ _ => rfl, fun _ => rfl, by rw [h6, et], fun j hj => h7 j (by omega)⟩
    unfold mo_laysShown_L59
    rw [h4.2.2.1, et, hl, if_pos (by decide)]
  | succ k ih =>
    intro m t ψ1 h1 hf h2 h3 h4 h5 h6 h7
    obtain ⟨m, rfl⟩ : ∃ z, m = z + 1 := ⟨m - 1, by omega⟩
    have hk4 := K4 t (by omega)
    have hne : ¬ (T 0 t = 0) := fun z => absurd (hk4.mp (Or.inl z)) (by omega)
    have hc0 : ¬ yk_cls (T 0 t) = 0 := by
      unfold yk_cls
      rw [if_neg hne]
      repeat' split
      all_goals decide
    obtain ⟨ψ2, e2⟩ : ∃ ψ2, ψ2 = qm_u (qm_u (qm_u ψ1 12 (800 + (t - fs)) (T 1 t)) 13 (800 + (t - fs)) (T 2 t)) 14 1 (Int32.ofNat (t - fs + 1)) := ⟨_, rfl⟩
    have sh : mo_shows F ψ1 = some ψ2 := by
      unfold mo_shows
      rw [h5, show qm_in 1 2 = true by decide, show (1 : Int32).toNatClampNeg = 1 by decide, h6, show (800 : Int32) * 1 = Int32.ofNat 800 by decide, ya_add, ya_in (by omega) (by omega), ya_nn (by omega), h4.1, h4.2.1, ya_add1, e2]
      rfl
    have f2 : ∀ a j, ¬ ((a = 12 ∨ a = 13) ∧ j = 800 + (t - fs)) → ¬ (a = 14 ∧ j = 1) → ψ2 a j = ψ1 a j := by
      intro a j x y
      rw [e2]
      (unfold qm_u; repeat' split) <;> first | rfl | omega
    have tx2 : yk_TX b n ψ2 := ⟨by rw [f2 0 3 (by omega) (by omega)]; exact h3.1, fun j hj => by rw [f2 1 j (by omega) (by omega)]; exact h3.2 j hj⟩
    obtain ⟨ψ3, s1, s2, s3⟩ := K7 ψ2 t tx2 (by omega) (by rw [f2 0 5 (by omega) (by omega)]; exact h4.2.1)
    have lf : ls_f ψ1 ψ3 := fun a j x y z => by rw [s3 a j x, f2 a j (by omega) (by omega)]
    obtain ⟨ψ', r1, r2, r3, r4, r5⟩ := ih m (t + 1) ψ3 (by omega) (by omega) (by omega) (lf.tx h3) s2 (by rw [s3 _ _ (by omega), f2 _ _ (by omega) (by omega)]; exact h5) (by rw [s3 _ _ (by omega), e2, ya_u_same]; congr 1; omega) (fun j hj => by
      rw [s3 _ _ (by omega), s3 _ _ (by omega)]
      by_cases w : j = t - fs
      · subst w
        rw [show fs + (t - fs) = t by omega, e2]
        simp [qm_u]
      · rw [f2 _ _ (by omega) (by omega), f2 _ _ (by omega) (by omega)]; exact h7 j (by omega))
    refine ⟨ψ', ?_, lf.trans r2, fun j => by rw [r3, s3 _ _ (by omega), f2 _ _ (by omega) (by omega)], r4, r5⟩
    unfold mo_laysShown_L59
    rw [h4.2.2.1, if_neg hc0, sh]
    simp only [yb1]
    rw [s1]
    exact r1
theorem ls_20 (hK : yk_TK F n cnt b T) (m0 : Nat) : ∀ (k m i : Nat) (ψ1 : qm_F), k + i = n → k + 1 ≤ m → yk_TX b n ψ1 → ψ1 0 13 = 1 → ∃ ψ', mo_laysShown_L20 F m ψ1 (Int32.ofNat i) = (qb1 (mo_steps F ψ') fun φ1 => mo_laysShown_L59 F F φ1) ∧ (∀ j, i ≤ j → j < n → ψ' 11 (800 + j) = qm_by (ψ1 1 j)) ∧ ∀ a j, ¬ (a = 11 ∧ 800 + i ≤ j) → ψ' a j = ψ1 a j := by
  obtain ⟨K1, K2, K3, K4, K5, K6, K7, K8, K9, K10, K11⟩ := hK
  intro k
  induction k with
  | zero =>
    intro m i ψ1 h1 h2 h3 h4
    obtain ⟨m, rfl⟩ : ∃ z, m = z + 1 := ⟨m - 1, by omega⟩
    refine ⟨ψ1, ?_, fun j a b => by omega, fun _ _ _ => rfl⟩
    unfold mo_laysShown_L20
    rw [h3.1, if_pos (by rw [ya_le (by omega) (by omega)]; omega)]
  | succ k ih =>
    intro m i ψ1 h1 h2 h3 h4
    obtain ⟨m, rfl⟩ : ∃ z, m = z + 1 := ⟨m - 1, by omega⟩
    have f2 : ∀ a j, ¬ (a = 11 ∧ j = 800 + i) → (qm_u ψ1 11 (800 + i) (qm_by (ψ1 1 i))) a j = ψ1 a j := by
      intro a j x
      (unfold qm_u; repeat' split) <;> first | rfl | omega
    obtain ⟨ψ', r1, r2, r3⟩ := ih m (i + 1) (qm_u ψ1 11 (800 + i) (qm_by (ψ1 1 i))) (by omega) (by omega) ⟨h3.1, h3.2⟩ h4
    refine ⟨ψ', ?_, fun j a b => ?_, fun a j x => by rw [r3 a j (by omega), f2 a j (by omega)]⟩
    · rw [← r1]
      conv => lhs; unfold mo_laysShown_L20
      rw [h3.1, if_neg (by rw [ya_le (by omega) (by omega)]; omega), h4, show (800 : Int32) * 1 = Int32.ofNat 800 by decide, ya_add, ya_in (k := i) (by omega) (by omega), ya_in (k := 800 + i) (by omega) (by omega), ya_nn (by omega), ya_nn (by omega), ya_add1]
      rfl
    · by_cases w : j = i
      · subst w
        rw [r3 _ _ (by omega), ya_u_same]
      · rw [r2 j (by omega) b]
        rfl
theorem ls_all (hF : 4000 ≤ F) (hK : yk_TK F n cnt b T) (hfs : fs < cnt) (hl : T 0 (cnt - 1) = 0) (hT : yk_TX b n ψ) (h13 : ψ 0 13 = 1) (h31 : ψ 0 31 = T 1 fs) (hs : ∀ ψ, yk_TX b n ψ → ψ 0 5 = T 1 fs → ∃ ψ', mo_steps F ψ = some ψ' ∧ yk_at T fs ψ' ∧ ∀ a j, ¬ (a = 0 ∧ 4 ≤ j ∧ j ≤ 8) → ψ' a j = ψ a j) :
    ∃ ψ', mo_laysShown F ψ = some ψ' ∧ ls_f ψ ψ' ∧ (∀ j, j < n → ψ' 11 (800 + j) = qm_by (ψ 1 j)) ∧ ψ' 14 1 = Int32.ofNat (cnt - 1 - fs) ∧ (∀ j, j < cnt - 1 - fs → ψ' 12 (800 + j) = T 1 (fs + j) ∧ ψ' 13 (800 + j) = T 2 (fs + j)) := by
  have hn := hK.2.1
  have hn2 := hK.2.2.1
  obtain ⟨ψ1, e1⟩ : ∃ ψ1, ψ1 = qm_u (qm_u ψ 0 5 (T 1 fs)) 14 1 0 := ⟨_, rfl⟩
  have f1 : ∀ a j, ¬ (a = 0 ∧ j = 5) → ¬ (a = 14 ∧ j = 1) → ψ1 a j = ψ a j := by
    intro a j x y
    rw [e1]
    (unfold qm_u; repeat' split) <;> first | rfl | omega
  have t1 : yk_TX b n ψ1 := ⟨by rw [f1 0 3 (by omega) (by omega)]; exact hT.1, fun j hj => by rw [f1 1 j (by omega) (by omega)]; exact hT.2 j hj⟩
  obtain ⟨ψ2, a1, a2, a3⟩ := ls_20 (F := F) hK 0 n F 0 ψ1 (by omega) (by omega) t1 (by rw [f1 _ _ (by omega) (by omega)]; exact h13)
  have t2 : yk_TX b n ψ2 := ⟨by rw [a3 0 3 (by omega)]; exact t1.1, fun j hj => by rw [a3 1 j (by omega)]; exact t1.2 j hj⟩
  obtain ⟨ψ3, b1, b2, b3⟩ := hs ψ2 t2 (by rw [a3 0 5 (by omega), e1]; simp [qm_u])
  have t3 : yk_TX b n ψ3 := ⟨by rw [b3 0 3 (by omega)]; exact t2.1, fun j hj => by rw [b3 1 j (by omega)]; exact t2.2 j hj⟩
  obtain ⟨ψ', c1, c2, c3, c4, c5⟩ := ls_59 (fs := fs) hK hl (cnt - 1 - fs) F fs ψ3 (by omega) (Nat.le_refl _) (by omega) t3 b2 (by rw [b3 _ _ (by omega), a3 _ _ (by omega), f1 _ _ (by omega) (by omega)]; exact h13) (by rw [b3 _ _ (by omega), a3 _ _ (by omega), e1, ya_u_same, Nat.sub_self]; rfl) (fun j hj => by omega)
  refine ⟨ψ', ?_, fun a j x y z => ?_, fun j hj => ?_, c4, c5⟩
  · unfold mo_laysShown
    rw [h13, h31, show qm_in 1 2 = true by decide, show (1 : Int32).toNatClampNeg = 1 by decide, ← e1]
    have a1' : mo_laysShown_L20 F F ψ1 0 = _ := a1
    rw [a1', b1]
    exact c1
  · rw [c2 a j x y z, b3 a j x, a3 a j (by omega), f1 a j (by omega) z]
  · rw [c3, b3 _ _ (by omega), a2 j (by omega) hj, f1 1 j (by omega) (by omega)]
end S18
