/-! SEMANTICS: tokens, what the parsers of both sides see -/
/-- the reference's class of a token, from the component's kind -/
def yk_cls (k : Int32) : Int32 := if k = 0 then 0 else if k = 1 then 4 else if k = 48 then 2 else if k = 97 then 1 else if 128 ≤ k then 1 else 3
def yk_own (k : Int32) : Int32 := if 128 ≤ k then k - 128 else -1
def yk_TX (b : Nat → Int32) (n : Nat) (ψ : qm_F) : Prop := ψ 0 3 = Int32.ofNat n ∧ ∀ j, j < n → ψ 1 j &&& 255 = b j
def yk_at (T : qm_F) (t : Nat) (ψ : qm_F) : Prop := ψ 0 4 = T 1 t ∧ ψ 0 5 = T 2 t ∧ ψ 0 6 = yk_cls (T 0 t) ∧ (T 0 t = 48 → ψ 0 7 = T 3 t) ∧ (yk_cls (T 0 t) = 1 → ψ 0 8 = T 4 t)
/-- the tokens of a text: rows of T are kind, place, end, number, word -/
def yk_TK (F n cnt : Nat) (b : Nat → Int32) (T : qm_F) : Prop :=
  1 ≤ cnt ∧ cnt ≤ n + 1 ∧ n ≤ 800 ∧
  (∀ t, t < cnt → ((T 0 t = 0 ∨ T 0 t = 1) ↔ t + 1 = cnt)) ∧
  (∀ ψ t, yk_TX b n ψ → t < cnt → yk_cls (T 0 t) = 3 → mo_see F ψ (T 1 t) = some (T 0 t)) ∧
  (∀ ψ t, t < cnt → yk_at T t ψ → mo_own F ψ = some (yk_own (T 0 t))) ∧
  (∀ ψ t, yk_TX b n ψ → t + 1 < cnt → ψ 0 5 = T 2 t → ∃ ψ', mo_steps F ψ = some ψ' ∧ yk_at T (t + 1) ψ' ∧ ∀ a j, ¬ (a = 0 ∧ 4 ≤ j ∧ j ≤ 8) → ψ' a j = ψ a j) ∧
  (∀ t s, t < cnt → s < cnt → T 0 t = 97 → T 0 s = 97 → (T 3 t = T 3 s ↔ T 4 t = T 4 s)) ∧
  (∀ t, t < cnt → T 0 t = 97 → T 4 t ≠ 0) ∧
  (∀ t, t < cnt → T 0 t = 48 → ∃ k, k < 100000 ∧ T 3 t = Int32.ofNat k) ∧
  (∀ t, t < cnt → ∃ k, k ≤ n ∧ T 1 t = Int32.ofNat k)
/-- the component's parser at token t, sz rows of code -/
def yp_X (nN cnt : Nat) (T : qm_F) (t sz : Nat) (φ : qm_F) : Prop :=
  φ 10 3 = Int32.ofNat t ∧ φ 4 5 = Int32.ofNat cnt ∧ (∀ s, t ≤ s → s < cnt → φ 6 s = T 0 s ∧ φ 9 s = T 3 s) ∧ (∀ s, s < cnt → φ 7 s = T 1 s) ∧ φ 14 13 = Int32.ofNat sz
def yp_M (n : Nat) (b : Nat → Int32) (T : qm_F) (t cd : Nat) (ψ : qm_F) : Prop :=
  yk_TX b n ψ ∧ yk_at T t ψ ∧ ψ 0 9 = 0 ∧ ψ 0 13 = 1 ∧ ψ 0 21 = Int32.ofNat cd
section Y1
variable {F nR nN nT n cnt t sz cd : Nat} {b : Nat → Int32} {T φ ψ : qm_F}
theorem yx_kind (h : yp_X nN cnt T t sz φ) (ht : t < cnt) (hc : cnt ≤ nN + 1) (hn : nN ≤ 800) : pa_kind F nR nN nT φ = some (T 0 t) := by
  obtain ⟨h1, h2, h3, -, -⟩ := h
  unfold pa_kind to_kindOf
  rw [h1, h2, if_neg (ya_lt0 (by omega)), if_neg (by rw [ya_le (by omega) (by omega)]; omega), ya_in (by omega) (by omega), ya_nn (by omega), (h3 t (Nat.le_refl _) ht).1]
  rfl
theorem yx_place (h : yp_X nN cnt T t sz φ) (ht : t < cnt) (hc : cnt ≤ nN + 1) (hn : nN ≤ 800) : to_placeOf F nR nN φ (φ 10 3) = some (T 1 t) := by
  obtain ⟨h1, h2, -, h4, -⟩ := h
  unfold to_placeOf
  rw [h1, h2, if_neg (ya_lt0 (by omega)), if_neg (by rw [ya_le (by omega) (by omega)]; omega), ya_in (by omega) (by omega), ya_nn (by omega), h4 t ht]
  rfl
theorem yx_number (h : yp_X nN cnt T t sz φ) (ht : t < cnt) (hc : cnt ≤ nN + 1) (hn : nN ≤ 800) : to_numberOf F nR nN φ (φ 10 3) = some (T 3 t) := by
  obtain ⟨h1, h2, h3, -, -⟩ := h
  unfold to_numberOf
  rw [h1, h2, if_neg (ya_lt0 (by omega)), if_neg (by rw [ya_le (by omega) (by omega)]; omega), ya_in (by omega) (by omega), ya_nn (by omega), (h3 t (Nat.le_refl _) ht).2]
  rfl
theorem yx_fail (h : yp_X nN cnt T t sz φ) (ht : t < cnt) (hc : cnt ≤ nN + 1) (hn : nN ≤ 800) (k : Int32) : pa_fail F nR nN nT φ k = some (0, qm_u φ 10 5 (8 * T 1 t + k)) := by
  unfold pa_fail
  rw [yx_place h ht hc hn]
  rfl
theorem yx_take (h : yp_X nN cnt T t sz φ) (ht : t < cnt) (hc : cnt ≤ nN + 1) (hn : nN ≤ 800) (k : Int32) : pa_take F nR nN nT φ k = if T 0 t = k then some (1, qm_u φ 10 3 (Int32.ofNat (t + 1))) else some (0, qm_u φ 10 5 (8 * T 1 t + 1)) := by
  unfold pa_take
  rw [yx_kind h ht hc hn, yx_fail h ht hc hn]
  simp only [yb1, yb2, yg0, yg1]
  rw [h.1, ya_add1]
theorem yx_emit (h : yp_X nN cnt T t sz φ) (hs : sz < nT) (hT : nT ≤ 801) (o a g : Int32) : pr_emit F nR nN nT φ o a g = some (Int32.ofNat sz, qm_u (qm_u (qm_u (qm_u φ 20 sz o) 21 sz a) 22 sz g) 14 13 (Int32.ofNat (sz + 1))) := by
  obtain ⟨-, -, -, -, h5⟩ := h
  unfold pr_emit
  rw [h5, show decide (nT < 2147483648) = true from decide_eq_true (by omega), if_neg (by rw [ya_le (by omega) (by omega)]; omega), ya_in (by omega) (by omega), ya_nn (by omega), ya_add1, ya_sub1 (by omega)]
  rfl
/-! the reference -/
theorem ym_sign (hK : yk_TK F n cnt b T) (h : yp_M n b T t cd ψ) (ht : t < cnt) (c : Int32) (hc : yk_cls c = 3) : mo_isSign F ψ c = some (if T 0 t = c then 1 else 0) := by
  obtain ⟨-, -, -, -, k5, -⟩ := hK
  obtain ⟨h1, ⟨a1, -, a3, -, -⟩, -⟩ := h
  unfold mo_isSign
  rw [a3, a1]
  by_cases q : yk_cls (T 0 t) = 3
  · rw [if_neg (by rw [q]; decide), k5 ψ t h1 ht q]
    simp only [yb1]
    by_cases q2 : T 0 t = c
    · rw [if_neg (by simp [q2]), if_pos q2]
    · rw [if_pos q2, if_neg q2]
  · rw [if_pos q, if_neg (fun z => q (by rw [z]; exact hc))]
theorem ym_must1 (h : yp_M n b T t cd ψ) (k : Int32) : mo_must F ψ 1 k = some (1, ψ) := by
  obtain ⟨-, -, h3, -, -⟩ := h
  unfold mo_must mo_must_L24
  simp [h3]
theorem ym_must0 (h : yp_M n b T t cd ψ) {k : Int32} (hk : k ≠ 0) : mo_must F ψ 0 k = some (0, qm_u (qm_u ψ 0 9 k) 0 10 (T 1 t)) := by
  obtain ⟨-, ⟨a1, -⟩, h3, -, -⟩ := h
  unfold mo_must mo_must_L24
  simp [h3, a1, qm_u, hk]
theorem yk_cls1 {k : Int32} (h : yk_cls k = 1) (h9 : ¬ k = 97) : 128 ≤ k := by
  unfold yk_cls at h
  by_cases q : 128 ≤ k
  · exact q
  · rw [if_neg q, if_neg h9] at h
    split at h
    · exact absurd h (by decide)
    · split at h
      · exact absurd h (by decide)
      · split at h
        · exact absurd h (by decide)
        · exact absurd h (by decide)
theorem ym_own (hK : yk_TK F n cnt b T) (h : yp_M n b T t cd ψ) (ht : t < cnt) : mo_own F ψ = some (yk_own (T 0 t)) := by
  obtain ⟨-, -, -, -, -, k6, -⟩ := hK
  exact k6 ψ t ht h.2.1
theorem ym_isName (hK : yk_TK F n cnt b T) (h : yp_M n b T t cd ψ) (ht : t < cnt) : mo_isName F ψ = some (if T 0 t = 97 then 1 else 0) := by
  unfold mo_isName
  rw [ym_own hK h ht, h.2.1.2.2.1]
  simp only [yb1]
  by_cases q : T 0 t = 97
  · rw [q]; decide
  · rw [if_neg q]
    by_cases q2 : yk_cls (T 0 t) = 1
    · rw [if_neg (by simp [q2]), if_pos]
      have hh := yk_cls1 q2 q
      unfold yk_own
      rw [if_pos hh]
      rw [Int32.le_iff_toInt_le] at hh ⊢
      have e1 : (128 : Int32).toInt = 128 := rfl
      have e0 : (0 : Int32).toInt = 0 := rfl
      have := Int32.toInt_lt (T 0 t)
      have e2 := ya_tsub (x := T 0 t) (y := 128) (by omega) (by omega)
      omega
    · rw [if_pos q2]
theorem ym_steps (hK : yk_TK F n cnt b T) (h : yp_M n b T t cd ψ) (ht : t + 1 < cnt) : ∃ ψ', mo_steps F ψ = some ψ' ∧ yp_M n b T (t + 1) cd ψ' ∧ ∀ a j, ¬ (a = 0 ∧ 4 ≤ j ∧ j ≤ 8) → ψ' a j = ψ a j := by
  obtain ⟨-, -, -, -, -, -, k7, -⟩ := hK
  obtain ⟨⟨x1, x2⟩, h2, h3, h4, h5⟩ := h
  obtain ⟨ψ', e, a, f⟩ := k7 ψ t ⟨x1, x2⟩ ht h2.2.1
  refine ⟨ψ', e, ⟨⟨by rw [f 0 3 (by omega)]; exact x1, fun j hj => by rw [f 1 j (by omega)]; exact x2 j hj⟩, a, by rw [f 0 9 (by omega)]; exact h3, by rw [f 0 13 (by omega)]; exact h4, by rw [f 0 21 (by omega)]; exact h5⟩, f⟩
theorem ym_codes (h : yp_M n b T t cd ψ) (hc : cd < 800) (c v : Int32) : mo_codes F ψ c v = some (qm_u (qm_u (qm_u ψ 7 (800 + cd) c) 8 (800 + cd) v) 0 21 (Int32.ofNat (cd + 1))) := by
  obtain ⟨-, -, -, h4, h5⟩ := h
  unfold mo_codes
  have e : (800 : Int32) * 1 + Int32.ofNat cd = Int32.ofNat (800 + cd) := ya_add 800 cd
  rw [h4, h5, e, ya_in (by omega) (by omega), ya_nn (by omega), ya_add1]
  rfl
/-- no more is done where nothing fits -/
theorem yk_next (hK : yk_TK F n cnt b T) (ht : t < cnt) (h0 : T 0 t ≠ 0) (h1 : T 0 t ≠ 1) : t + 1 < cnt := by
  obtain ⟨-, -, -, k4, -⟩ := hK
  have := k4 t ht
  by_cases q : t + 1 = cnt
  · rcases this.mpr q with z | z
    · exact absurd z h0
    · exact absurd z h1
  · omega
end Y1
