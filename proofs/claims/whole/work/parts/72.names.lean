/-! SEMANTICS: names -/
/-- the names that are there: slot and the token that gave it -/
def yn_NM (cnt : Nat) (T : qm_F) (L : List (Nat × Nat)) (φ ψ : qm_F) : Prop :=
  φ 11 2 = Int32.ofNat L.length ∧ L.length ≤ 15 ∧
  (∀ (i : Nat) (p : Nat × Nat), L[i]? = some p → φ 12 i = T 3 p.2 ∧ φ 13 i = Int32.ofNat p.1 ∧ p.1 < 15 ∧ p.2 < cnt ∧ T 0 p.2 = 97 ∧ ψ 3 (15 + p.1) = T 4 p.2) ∧
  (∀ k, k < 15 → (∀ p, p ∈ L → p.1 ≠ k) → ψ 3 (15 + k) = 0) ∧
  (∀ (i j : Nat) (p q : Nat × Nat), L[i]? = some p → L[j]? = some q → (T 3 p.2 = T 3 q.2 ∨ p.1 = q.1) → i = j)
def yn_lk (T : qm_F) (w : Int32) : List (Nat × Nat) → Int32
  | [] => -1
  | p :: r => if T 3 p.2 = w then Int32.ofNat p.1 else yn_lk T w r
section Y2
variable {F nR nN nT n cnt : Nat} {b : Nat → Int32} {T φ ψ : qm_F} {L : List (Nat × Nat)}
theorem yn_NM.fr {φ' ψ' : qm_F} (h : yn_NM cnt T L φ ψ) (h1 : ∀ a j, a = 11 ∨ a = 12 ∨ a = 13 → φ' a j = φ a j) (h2 : ∀ j, 15 ≤ j → ψ' 3 j = ψ 3 j) : yn_NM cnt T L φ' ψ' := by
  obtain ⟨a1, a2, a3, a4, a5⟩ := h
  refine ⟨by rw [h1 11 2 (by omega)]; exact a1, a2, fun i p hp => ?_, fun k hk hp => ?_, a5⟩
  · rw [h1 12 i (by omega), h1 13 i (by omega), h2 _ (by omega)]; exact a3 i p hp
  · rw [h2 _ (by omega)]; exact a4 k hk hp
theorem yn_xL (h : yn_NM cnt T L φ ψ) (w : Int32) : ∀ (m i : Nat), L.length + 1 ≤ m + i → i ≤ L.length → na_slotOf_L2 F nR nN nT m φ w (Int32.ofNat i) = some (yn_lk T w (L.drop i)) := by
  intro m
  induction m with
  | zero => intro i h1 h2; omega
  | succ m ih =>
    intro i h1 h2
    obtain ⟨a1, a2, a3, a4, a5⟩ := h
    unfold na_slotOf_L2
    rw [a1]
    by_cases q : i = L.length
    · rw [if_pos (by rw [ya_le (by omega) (by omega)]; omega), List.drop_eq_nil_of_le (by omega)]
      rfl
    · have hi : i < L.length := by omega
      have e15 : (15 : Int32) = Int32.ofNat 15 := rfl
      have hp := List.getElem?_eq_getElem hi
      have b3 := a3 i _ hp
      rw [if_neg (by rw [ya_le (by omega) (by omega)]; omega), e15, if_neg (by rw [ya_le (by omega) (by omega)]; omega), ya_in (by omega) (by omega), ya_nn (by omega), b3.1, b3.2.1, List.drop_eq_getElem_cons hi]
      simp only [yg1]
      unfold yn_lk
      by_cases q2 : T 3 (L[i]).2 = w
      · rw [if_neg (by simp [q2]), if_pos q2]
      · rw [if_pos q2, if_neg q2, ya_add1]
        exact ih (i + 1) (by omega) (by omega)
theorem yn_x (hF : 20 ≤ F) (h : yn_NM cnt T L φ ψ) (w : Int32) : na_slotOf F nR nN nT φ w = some (yn_lk T w L) := by
  have := yn_xL (F := F) (nR := nR) (nN := nN) (nT := nT) h w F 0 (by have := h.2.1; omega) (by omega)
  rw [List.drop_zero] at this
  exact this
theorem yn_mN {w : Int32} (hb : ψ 0 13 = 1) : ∀ (m i : Nat), 16 ≤ m + i → i ≤ 15 → (∀ k, i ≤ k → k < 15 → ψ 3 (15 + k) ≠ w) → mo_slotOf_L2 F m ψ w (Int32.ofNat i) = some (-1) := by
  intro m
  induction m with
  | zero => intro i h1 h2; omega
  | succ m ih =>
    intro i h1 h2 h3
    unfold mo_slotOf_L2
    have e15 : (15 : Int32) = Int32.ofNat 15 := rfl
    have e2 : (15 : Int32) * 1 + Int32.ofNat i = Int32.ofNat (15 + i) := ya_add 15 i
    by_cases q : i = 15
    · rw [e15, if_pos (by rw [ya_le (by omega) (by omega)]; omega)]
    · rw [hb, e2, e15, if_neg (by rw [ya_le (by omega) (by omega)]; omega), ya_in (by omega) (by omega), ya_nn (by omega)]
      simp only [yg1]
      rw [if_pos (h3 i (by omega) (by omega)), ya_add1]
      exact ih (i + 1) (by omega) (by omega) (fun k hk => h3 k (by omega))
theorem yn_mS {w : Int32} {k0 : Nat} (hb : ψ 0 13 = 1) (hk : k0 < 15) (hw : ψ 3 (15 + k0) = w) : ∀ (m i : Nat), 16 ≤ m + i → i ≤ k0 → (∀ k, i ≤ k → k < k0 → ψ 3 (15 + k) ≠ w) → mo_slotOf_L2 F m ψ w (Int32.ofNat i) = some (Int32.ofNat k0) := by
  intro m
  induction m with
  | zero => intro i h1 h2; omega
  | succ m ih =>
    intro i h1 h2 h3
    unfold mo_slotOf_L2
    have e15 : (15 : Int32) = Int32.ofNat 15 := rfl
    have e2 : (15 : Int32) * 1 + Int32.ofNat i = Int32.ofNat (15 + i) := ya_add 15 i
    rw [hb, e2, e15, if_neg (by rw [ya_le (by omega) (by omega)]; omega), ya_in (by omega) (by omega), ya_nn (by omega)]
    simp only [yg1]
    by_cases q : i = k0
    · subst q
      rw [if_neg (by simp [hw])]
    · rw [if_pos (h3 i (by omega) (by omega)), ya_add1]
      exact ih (i + 1) (by omega) (by omega) (fun k hk => h3 k (by omega))
/-- a name is there or not, with its slot -/
theorem yn_cases (T : qm_F) (w : Int32) : ∀ L : List (Nat × Nat), (yn_lk T w L = -1 ∧ ∀ p, p ∈ L → T 3 p.2 ≠ w) ∨ ∃ (i : Nat) (p : Nat × Nat), L[i]? = some p ∧ T 3 p.2 = w ∧ yn_lk T w L = Int32.ofNat p.1 := by
  intro L
  induction L with
  | nil => exact Or.inl ⟨rfl, fun p hp => by cases hp⟩
  | cons p r ih =>
    by_cases q : T 3 p.2 = w
    · exact Or.inr ⟨0, p, rfl, q, by unfold yn_lk; rw [if_pos q]⟩
    · have e : yn_lk T w (p :: r) = yn_lk T w r := by
        conv => lhs; unfold yn_lk
        rw [if_neg q]
      rw [e]
      rcases ih with ⟨h1, h2⟩ | ⟨i, z, h1, h2, h3⟩
      · refine Or.inl ⟨h1, fun z hz => ?_⟩
        rcases List.mem_cons.mp hz with rfl | hz
        · exact q
        · exact h2 z hz
      · exact Or.inr ⟨i + 1, z, by simpa using h1, h2, h3⟩
theorem yn_m (hF : 20 ≤ F) (hK : yk_TK F n cnt b T) (h : yn_NM cnt T L φ ψ) (hb : ψ 0 13 = 1) {t : Nat} (ht : t < cnt) (h9 : T 0 t = 97) : mo_slotOf F ψ (T 4 t) = some (yn_lk T (T 3 t) L) := by
  obtain ⟨-, -, -, -, -, -, -, k8, k9, -⟩ := hK
  obtain ⟨a1, a2, a3, a4, a5⟩ := h
  unfold mo_slotOf
  rcases yn_cases T (T 3 t) L with ⟨h1, h2⟩ | ⟨i, p, h1, h2, h3⟩
  · rw [h1]
    refine yn_mN hb F 0 (by omega) (by omega) (fun k _ hk hz => ?_)
    by_cases q : ∃ p, p ∈ L ∧ p.1 = k
    · obtain ⟨p, hp, rfl⟩ := q
      obtain ⟨i, hi⟩ := List.getElem?_of_mem hp
      obtain ⟨-, -, -, b4, b5, b6⟩ := a3 i p hi
      rw [b6] at hz
      exact h2 p hp ((k8 p.2 t b4 ht b5 h9).mpr hz)
    · rw [a4 k hk (fun p hp hq => q ⟨p, hp, hq⟩)] at hz
      exact k9 t ht h9 hz.symm
  · rw [h3]
    obtain ⟨-, -, b3, b4, b5, b6⟩ := a3 i p h1
    refine yn_mS hb b3 (by rw [b6]; exact (k8 p.2 t b4 ht b5 h9).mp h2) F 0 (by omega) (by omega) (fun k _ hk hz => ?_)
    by_cases q : ∃ p, p ∈ L ∧ p.1 = k
    · obtain ⟨z, hp, rfl⟩ := q
      obtain ⟨j, hj⟩ := List.getElem?_of_mem hp
      obtain ⟨-, -, -, c4, c5, c6⟩ := a3 j z hj
      rw [c6] at hz
      have e := (k8 z.2 t c4 ht c5 h9).mpr hz
      have := a5 i j p z h1 hj (Or.inl (h2.trans e.symm))
      subst this
      rw [h1] at hj
      cases hj
      omega
    · rw [a4 k (by omega) (fun p hp hq => q ⟨p, hp, hq⟩)] at hz
      exact k9 t ht h9 hz.symm
end Y2
