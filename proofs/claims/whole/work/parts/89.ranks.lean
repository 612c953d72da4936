/-! SEMANTICS: both rank the guesses alike -/
section S16
variable {F nR nN nT gg : Nat} {φs ψs φ ψ : qm_F} {Hb : List Nat}
def rk_I (Hb : List Nat) (φs ψs : qm_F) (g : Nat) (φ ψ : qm_F) : Prop :=
  (∀ a j, a ≠ 23 → a ≠ 24 → φ a j = φs a j) ∧ (∀ a j, a ≠ 16 → ψ a j = ψs a j) ∧ (∀ j, j < g → φ 23 j = ss_cst Hb (φs 17) j 0 Hb.length 0) ∧ (∀ j, g ≤ j → φ 23 j = 0) ∧ (∀ j, j < g → ∃ r, r < g ∧ φ 24 j = Int32.ofNat r ∧ ψ 16 j = Int32.ofNat r)
/-- the hole of an insertion stands at k -/
def rk_J (Hb : List Nat) (φs ψs : qm_F) (g k : Nat) (φ ψ : qm_F) : Prop :=
  k ≤ g ∧ (∀ a j, a ≠ 23 → a ≠ 24 → φ a j = φs a j) ∧ (∀ a j, a ≠ 16 → ψ a j = ψs a j) ∧ (∀ j, j ≤ g → φ 23 j = ss_cst Hb (φs 17) j 0 Hb.length 0) ∧ (∀ j, g < j → φ 23 j = 0) ∧ (∀ j, j ≤ g → j ≠ k → ∃ r, r < g ∧ φ 24 j = Int32.ofNat r ∧ ψ 16 j = Int32.ofNat r)
theorem rk_P {φ' : qm_F} (hP : ss_P Hb φs ψs) (h : ∀ a j, a ≠ 23 → a ≠ 24 → φ' a j = φs a j) : ss_P Hb φ' ψs :=
  ⟨hP.1, hP.2.1, by rw [h _ _ (by omega) (by omega)]; exact hP.2.2.1, hP.2.2.2.1, fun k x hx => by rw [h _ _ (by omega) (by omega)]; exact hP.2.2.2.2 k x hx⟩
theorem rk_cost (hF : 200000 ≤ F) (hP : ss_P Hb φs ψs) (hgg : gg ≤ 128) {g : Nat} (hg : g < gg) : ∀ (n m k : Nat) (φ : qm_F), n + k = Hb.length → (∀ a j, a ≠ 23 → a ≠ 24 → φ a j = φs a j) → ∃ φ', pr_rankGuesses_L21 F nR nN nT gg (m + n + 1) 1 φ (Int32.ofNat gg) (Int32.ofNat g) (Int32.ofNat k) = pr_rankGuesses_L21 F nR nN nT gg m 2 φ' (Int32.ofNat gg) (Int32.ofNat g) (Int32.ofNat g) ∧ φ' 23 g = ss_cst Hb (φs 17) g k n (φ 23 g) ∧ ∀ a j, ¬ (a = 23 ∧ j = g) → φ' a j = φ a j := by
  have h5 := hP.1
  intro n
  induction n with
  | zero =>
    intro m k φ h1 hf
    refine ⟨φ, ?_, rfl, fun _ _ _ => rfl⟩
    conv => lhs; unfold pr_rankGuesses_L21
    rw [if_neg (by omega), if_pos rfl, hf 14 2 (by omega) (by omega), hP.2.2.1, if_pos (by rw [ya_le (by omega) (by omega)]; omega)]
  | succ n ih =>
    intro m k φ h1 hf
    have h17 := hf 17 k (by omega) (by omega)
    obtain ⟨φ1, e1⟩ : ∃ φ1, φ1 = qm_u φ 23 g (φ 23 g + φs 17 k * rp_v Hb g k) := ⟨_, rfl⟩
    have f1 : ∀ a j, ¬ (a = 23 ∧ j = g) → φ1 a j = φ a j := by
      intro a j z
      rw [e1]
      (unfold qm_u; repeat' split) <;> first | rfl | omega
    obtain ⟨φ', r1, r2, r3⟩ := ih m (k + 1) φ1 (by omega) (fun a j x y => by rw [f1 a j (by omega)]; exact hf a j x y)
    refine ⟨φ', ?_, ?_, fun a j z => by rw [r3 a j z, f1 a j z]⟩
    · rw [← r1]
      conv => lhs; rw [show m + (n + 1) + 1 = (m + n + 1) + 1 by omega]; unfold pr_rankGuesses_L21
      rw [if_neg (by omega), if_pos rfl, hf 14 2 (by omega) (by omega), hP.2.2.1, if_neg (by rw [ya_le (by omega) (by omega)]; omega), ya_in (k := g) (by omega) hg, ya_in (k := k) (n := 5) (by omega) (by omega), ya_nn (k := g) (by omega), ya_nn (k := k) (by omega), sx_value hF (rk_P hP hf) (sx_st0 φ) (by omega) (by omega), h17, ya_add1]
      simp only [yg1, yb1]
      rw [← e1]
    · rw [r2, e1, ya_u_same]
      rfl
theorem rk_one (hF : 200000 ≤ F) (hP : ss_P Hb φs ψs) (h17 : ∀ k, k < Hb.length → ψs 5 (3 + k) = φs 17 k) (hgg : gg ≤ 128) {g : Nat} (hg : g < gg) : ∀ (k m m' : Nat) (φ ψ : qm_F), rk_J Hb φs ψs g k φ ψ → k + 2 ≤ m → k + 2 ≤ m' → ∃ φ' ψ' z z', m ≤ z + k + 2 ∧ m' ≤ z' + k + 2 ∧ pr_rankGuesses_L21 F nR nN nT gg m 2 φ (Int32.ofNat gg) (Int32.ofNat g) (Int32.ofNat k) = pr_rankGuesses_L21 F nR nN nT gg z 0 φ' (Int32.ofNat gg) (Int32.ofNat (g + 1)) 0 ∧ mo_laysRanks_L2 F m' 1 ψ (Int32.ofNat g) (Int32.ofNat k) = mo_laysRanks_L2 F z' 0 ψ' (Int32.ofNat (g + 1)) 0 ∧ rk_I Hb φs ψs (g + 1) φ' ψ' := by
  have fin : ∀ (k m m' : Nat) (φ ψ : qm_F), rk_J Hb φs ψs g k φ ψ → ∃ φ' ψ', pr_rankGuesses_L21 F nR nN nT gg (m + 1) 3 φ (Int32.ofNat gg) (Int32.ofNat g) (Int32.ofNat k) = pr_rankGuesses_L21 F nR nN nT gg m 0 φ' (Int32.ofNat gg) (Int32.ofNat (g + 1)) 0 ∧ mo_laysRanks_L2 F (m' + 1) 2 ψ (Int32.ofNat g) (Int32.ofNat k) = mo_laysRanks_L2 F m' 0 ψ' (Int32.ofNat (g + 1)) 0 ∧ rk_I Hb φs ψs (g + 1) φ' ψ' := by
    intro k m m' φ ψ h
    obtain ⟨h0, h1, h2, h3, h4, h5⟩ := h
    refine ⟨qm_u φ 24 k (Int32.ofNat g), qm_u ψ 16 k (Int32.ofNat g), ?_, ?_, fun a j x y => by rw [ya_u_a _ _ _ _ y]; exact h1 a j x y, fun a j x => by rw [ya_u_a _ _ _ _ x]; exact h2 a j x, fun j hj => by rw [ya_u_a _ _ _ _ (by omega)]; exact h3 j (by omega), fun j hj => by rw [ya_u_a _ _ _ _ (by omega)]; exact h4 j (by omega), fun j hj => ?_⟩
    · conv => lhs; unfold pr_rankGuesses_L21
      rw [if_neg (by omega), if_neg (by omega), if_neg (by omega), ya_in (k := k) (by omega) (by omega), ya_nn (k := k) (by omega), ya_add1]
      rfl
    · conv => lhs; unfold mo_laysRanks_L2
      rw [if_neg (by omega), if_neg (by omega), ya_in (k := k) (by omega) (by omega), ya_nn (k := k) (by omega), ya_add1]
      rfl
    · by_cases z : j = k
      · subst z
        exact ⟨g, by omega, ya_u_same _ _ _ _, ya_u_same _ _ _ _⟩
      · obtain ⟨r, r1, r2, r3⟩ := h5 j (by omega) z
        exact ⟨r, by omega, by rw [ya_u_i _ _ _ _ z]; exact r2, by rw [ya_u_i _ _ _ _ z]; exact r3⟩
  intro k
  induction k with
  | zero =>
    intro m m' φ ψ h hm hm'
    obtain ⟨m, rfl⟩ : ∃ z, m = z + 2 := ⟨m - 2, by omega⟩
    obtain ⟨m', rfl⟩ : ∃ z, m' = z + 2 := ⟨m' - 2, by omega⟩
    obtain ⟨φ', ψ', e1, e2, e3⟩ := fin 0 m m' φ ψ h
    refine ⟨φ', ψ', m, m', by omega, by omega, ?_, ?_, e3⟩
    · rw [← e1]
      conv => lhs; unfold pr_rankGuesses_L21
      rw [if_neg (by omega), if_neg (by omega), if_pos rfl, if_pos (by decide)]
    · rw [← e2]
      conv => lhs; unfold mo_laysRanks_L2
      rw [if_neg (by omega), if_pos rfl, if_pos (by decide)]
  | succ k ih =>
    intro m m' φ ψ h hm hm'
    obtain ⟨m, rfl⟩ : ∃ z, m = z + 2 := ⟨m - 2, by omega⟩
    obtain ⟨m', rfl⟩ : ∃ z, m' = z + 2 := ⟨m' - 2, by omega⟩
    have hJ := h
    obtain ⟨h0, h1, h2, h3, h4, h5⟩ := h
    obtain ⟨r, r1, r2, r3⟩ := h5 k (by omega) (by omega)
    have hst : sm_st ψs ψ ∨ True := Or.inr trivial
    have hPψ : ss_P Hb φs ψ := ⟨hP.1, hP.2.1, hP.2.2.1, by rw [h2 _ _ (by omega)]; exact hP.2.2.2.1, fun i x hx => by rw [h2 _ _ (by omega)]; exact hP.2.2.2.2 i x hx⟩
    have c1 : ∀ g, g < 2147483648 → mo_costOf F ψ (Int32.ofNat g) = some (ss_cst Hb (φs 17) g 0 Hb.length 0) := fun g hg => sm_cost hF hPψ (sm_st0 ψ) (fun i hi => by rw [h2 _ _ (by omega)]; exact h17 i hi) hg
    have e1 : Int32.ofNat (k + 1) - 1 = Int32.ofNat k := ya_sub1 (by omega)
    have e2 : Int32.ofNat (k + 1) + (-1) = Int32.ofNat k := by rw [← Int32.sub_eq_add_neg]; exact e1
    have sx : pr_rankGuesses_L21 F nR nN nT gg (m + 2) 2 φ (Int32.ofNat gg) (Int32.ofNat g) (Int32.ofNat (k + 1)) = if ss_cst Hb (φs 17) r 0 Hb.length 0 ≤ ss_cst Hb (φs 17) g 0 Hb.length 0 then pr_rankGuesses_L21 F nR nN nT gg (m + 1) 3 φ (Int32.ofNat gg) (Int32.ofNat g) (Int32.ofNat (k + 1)) else pr_rankGuesses_L21 F nR nN nT gg (m + 1) 2 (qm_u φ 24 (k + 1) (Int32.ofNat r)) (Int32.ofNat gg) (Int32.ofNat g) (Int32.ofNat k) := by
      conv => lhs; unfold pr_rankGuesses_L21
      rw [if_neg (by omega), if_neg (by omega), if_pos rfl, if_neg (by rw [show (0 : Int32) = Int32.ofNat 0 from rfl, ya_le (by omega) (by omega)]; omega), e1, e2, ya_nn (k := k) (by omega), ya_nn (k := k + 1) (by omega), ya_nn (k := g) (by omega), r2, ya_nn (k := r) (by omega), ya_in (k := k) (by omega) (by omega), ya_in (k := r) (by omega) (by omega), ya_in (k := g) (by omega) (by omega), ya_in (k := k + 1) (by omega) (by omega), h3 r (by omega), h3 g (by omega)]
      rfl
    have sm : mo_laysRanks_L2 F (m' + 2) 1 ψ (Int32.ofNat g) (Int32.ofNat (k + 1)) = if ss_cst Hb (φs 17) r 0 Hb.length 0 ≤ ss_cst Hb (φs 17) g 0 Hb.length 0 then mo_laysRanks_L2 F (m' + 1) 2 ψ (Int32.ofNat g) (Int32.ofNat (k + 1)) else mo_laysRanks_L2 F (m' + 1) 1 (qm_u ψ 16 (k + 1) (Int32.ofNat r)) (Int32.ofNat g) (Int32.ofNat k) := by
      conv => lhs; unfold mo_laysRanks_L2
      rw [if_neg (by omega), if_pos rfl, if_neg (by rw [show (0 : Int32) = Int32.ofNat 0 from rfl, ya_le (by omega) (by omega)]; omega), e1, e2, ya_nn (k := k) (by omega), ya_nn (k := k + 1) (by omega), r3, ya_in (k := k) (by omega) (by omega), ya_in (k := k + 1) (by omega) (by omega), c1 r (by omega), c1 g (by omega)]
      rfl
    by_cases q : ss_cst Hb (φs 17) r 0 Hb.length 0 ≤ ss_cst Hb (φs 17) g 0 Hb.length 0
    · rw [if_pos q] at sx sm
      obtain ⟨φ', ψ', d1, d2, d3⟩ := fin (k + 1) m m' φ ψ hJ
      exact ⟨φ', ψ', m, m', by omega, by omega, sx.trans d1, sm.trans d2, d3⟩
    · rw [if_neg q] at sx sm
      have hJ' : rk_J Hb φs ψs g k (qm_u φ 24 (k + 1) (Int32.ofNat r)) (qm_u ψ 16 (k + 1) (Int32.ofNat r)) := by
        refine ⟨by omega, fun a j x y => by rw [ya_u_a _ _ _ _ y]; exact h1 a j x y, fun a j x => by rw [ya_u_a _ _ _ _ x]; exact h2 a j x, fun j hj => by rw [ya_u_a _ _ _ _ (by omega)]; exact h3 j hj, fun j hj => by rw [ya_u_a _ _ _ _ (by omega)]; exact h4 j hj, fun j hj hne => ?_⟩
        by_cases z : j = k + 1
        · subst z
          exact ⟨r, r1, ya_u_same _ _ _ _, ya_u_same _ _ _ _⟩
        · obtain ⟨r', r1', r2', r3'⟩ := h5 j hj z
          exact ⟨r', r1', by rw [ya_u_i _ _ _ _ z]; exact r2', by rw [ya_u_i _ _ _ _ z]; exact r3'⟩
      obtain ⟨φ', ψ', z, z', y1, y2, d1, d2, d3⟩ := ih (m + 1) (m' + 1) _ _ hJ' (by omega) (by omega)
      exact ⟨φ', ψ', z, z', by omega, by omega, sx.trans d1, sm.trans d2, d3⟩
theorem rk_all (hF : 200000 ≤ F) (hP : ss_P Hb φs ψs) (h17 : ∀ k, k < Hb.length → ψs 5 (3 + k) = φs 17 k) (hgg : gg ≤ 128) (h26 : ((1 : Int32) <<< (ψs 2 6 &&& 31)) = Int32.ofNat gg) : ∀ (n g m m' : Nat) (φ ψ : qm_F), n + g = gg → 140 * n + 1 ≤ m → 140 * n + 1 ≤ m' → rk_I Hb φs ψs g φ ψ → ∃ φ' ψ', pr_rankGuesses_L21 F nR nN nT gg m 0 φ (Int32.ofNat gg) (Int32.ofNat g) 0 = some φ' ∧ mo_laysRanks_L2 F m' 0 ψ (Int32.ofNat g) 0 = some ψ' ∧ rk_I Hb φs ψs gg φ' ψ' := by
  have h5l := hP.1
  intro n
  induction n with
  | zero =>
    intro g m m' φ ψ h1 h2 h3 hI
    obtain ⟨m, rfl⟩ : ∃ z, m = z + 1 := ⟨m - 1, by omega⟩
    obtain ⟨m', rfl⟩ : ∃ z, m' = z + 1 := ⟨m' - 1, by omega⟩
    obtain rfl : g = gg := by omega
    refine ⟨φ, ψ, ?_, ?_, hI⟩
    · unfold pr_rankGuesses_L21
      rw [if_pos rfl, if_pos (Int32.le_refl _)]
    · unfold mo_laysRanks_L2 mo_guesses
      rw [if_pos rfl, hI.2.1 2 6 (by omega), h26]
      simp only [yb1]
      rw [if_pos (Int32.le_refl _)]
  | succ n ih =>
    intro g m m' φ ψ h1 h2 h3 hI
    obtain ⟨m, rfl⟩ : ∃ z, m = z + Hb.length + 2 := ⟨m - Hb.length - 2, by omega⟩
    obtain ⟨m', rfl⟩ : ∃ z, m' = z + 1 := ⟨m' - 1, by omega⟩
    obtain ⟨h1', h2', h3', h4', h5'⟩ := hI
    obtain ⟨φ1, d1, d2, d3⟩ := rk_cost (nR := nR) (nN := nN) (nT := nT) hF hP hgg (g := g) (by omega) Hb.length m 0 φ (by omega) h1'
    have hJ : rk_J Hb φs ψs g g φ1 ψ := by
      refine ⟨Nat.le_refl _, fun a j x y => by rw [d3 a j (by omega)]; exact h1' a j x y, h2', fun j hj => ?_, fun j hj => by rw [d3 _ _ (by omega)]; exact h4' j (by omega), fun j hj hne => ?_⟩
      · by_cases z : j = g
        · subst z
          rw [d2, h4' j (Nat.le_refl _)]
        · rw [d3 _ _ (by omega)]; exact h3' j (by omega)
      · obtain ⟨r, r1, r2, r3⟩ := h5' j (by omega)
        exact ⟨r, r1, by rw [d3 _ _ (by omega)]; exact r2, r3⟩
    obtain ⟨φ2, ψ2, z, z', y1, y2, e1, e2, e3⟩ := rk_one (nR := nR) (nN := nN) (nT := nT) hF hP h17 hgg (g := g) (by omega) g m m' φ1 ψ hJ (by omega) (by omega)
    obtain ⟨φ', ψ', k1, k2, k3⟩ := ih (g + 1) z z' φ2 ψ2 (by omega) (by omega) (by omega) e3
    refine ⟨φ', ψ', ?_, ?_, k3⟩
    · rw [← k1, ← e1, ← d1]
      conv => lhs; rw [show m + Hb.length + 2 = (m + Hb.length + 1) + 1 by omega]; unfold pr_rankGuesses_L21
      rw [if_pos rfl, if_neg (by rw [ya_le (by omega) (by omega)]; omega)]
      rfl
    · rw [← k2, ← e2]
      conv => lhs; unfold mo_laysRanks_L2 mo_guesses
      rw [if_pos rfl, h2' 2 6 (by omega), h26]
      simp only [yb1]
      rw [if_neg (by rw [ya_le (by omega) (by omega)]; omega)]
end S16
