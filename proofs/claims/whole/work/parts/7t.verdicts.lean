/-! SEMANTICS: verdicts, kept by both -/
def sp_find (P : Nat → Bool) (res : Nat → Int32) (d : Int32) : Nat → Nat → Int32
  | _, 0 => d
  | i, n + 1 => if P i = true then res i else sp_find P res d (i + 1) n
def sp_cnt (P : Nat → Bool) : Nat → Nat → Nat
  | _, 0 => 0
  | i, n + 1 => (if P i = true then 1 else 0) + sp_cnt P (i + 1) n
theorem sg_find {L : Nat → qm_F → Int32 → Option (Int32 × qm_F)} {I : qm_F → Prop} {N : Nat} (P : Nat → Bool) (res : Nat → Int32) (d : Int32)
    (hs : ∀ m φ i, I φ → i < N → ∃ φ', I φ' ∧ L (m + 1) φ (Int32.ofNat i) = if P i = true then some (res i, φ') else L m φ' (Int32.ofNat (i + 1)))
    (he : ∀ m φ, I φ → L (m + 1) φ (Int32.ofNat N) = some (d, φ)) : ∀ (n m i : Nat) (φ : qm_F), n + i = N → n + 1 ≤ m → I φ → ∃ φ', I φ' ∧ L m φ (Int32.ofNat i) = some (sp_find P res d i n, φ') := by
  intro n
  induction n with
  | zero =>
    intro m i φ h1 h2 hI
    obtain ⟨m, rfl⟩ : ∃ z, m = z + 1 := ⟨m - 1, by omega⟩
    have : i = N := by omega
    subst this
    exact ⟨φ, hI, he m φ hI⟩
  | succ n ih =>
    intro m i φ h1 h2 hI
    obtain ⟨m, rfl⟩ : ∃ z, m = z + 1 := ⟨m - 1, by omega⟩
    obtain ⟨φ', hI', e⟩ := hs m φ i hI (by omega)
    unfold sp_find
    by_cases q : P i = true
    · rw [if_pos q] at e ⊢
      exact ⟨φ', hI', e⟩
    · rw [if_neg q] at e ⊢
      obtain ⟨φ2, hI2, e2⟩ := ih m (i + 1) φ' (by omega) (by omega) hI'
      exact ⟨φ2, hI2, e.trans e2⟩
theorem sg_cnt {L : Nat → qm_F → Int32 → Int32 → Option (Int32 × qm_F)} {I : qm_F → Prop} {N : Nat} (P : Nat → Bool)
    (hs : ∀ m φ i (a : Nat), I φ → i < N → ∃ φ', I φ' ∧ L (m + 1) φ (Int32.ofNat a) (Int32.ofNat i) = L m φ' (Int32.ofNat (a + if P i = true then 1 else 0)) (Int32.ofNat (i + 1)))
    (he : ∀ m φ (a : Nat), I φ → L (m + 1) φ (Int32.ofNat a) (Int32.ofNat N) = some (Int32.ofNat a, φ)) : ∀ (n m i a : Nat) (φ : qm_F), n + i = N → n + 1 ≤ m → I φ → ∃ φ', I φ' ∧ L m φ (Int32.ofNat a) (Int32.ofNat i) = some (Int32.ofNat (a + sp_cnt P i n), φ') := by
  intro n
  induction n with
  | zero =>
    intro m i a φ h1 h2 hI
    obtain ⟨m, rfl⟩ : ∃ z, m = z + 1 := ⟨m - 1, by omega⟩
    have : i = N := by omega
    subst this
    exact ⟨φ, hI, he m φ a hI⟩
  | succ n ih =>
    intro m i a φ h1 h2 hI
    obtain ⟨m, rfl⟩ : ∃ z, m = z + 1 := ⟨m - 1, by omega⟩
    obtain ⟨φ', hI', e⟩ := hs m φ i a hI (by omega)
    obtain ⟨φ2, hI2, e2⟩ := ih m (i + 1) (a + if P i = true then 1 else 0) φ' (by omega) (by omega) hI'
    refine ⟨φ2, hI2, ?_⟩
    rw [e, e2]
    show some (Int32.ofNat _, φ2) = some (Int32.ofNat (a + ((if P i = true then 1 else 0) + sp_cnt P (i + 1) n)), φ2)
    rw [Nat.add_assoc]
theorem sp_cntle (P : Nat → Bool) : ∀ n i, sp_cnt P i n ≤ n := by
  intro n
  induction n with
  | zero => intro i; exact Nat.le_refl _
  | succ n ih => intro i; unfold sp_cnt; have := ih (i + 1); split <;> omega
/-- what stays on the component's side, what stays on the reference's -/
def sx_st (φ0 φ : qm_F) : Prop := (∀ a j, 4 ≤ a → a ≤ 24 → φ a j = φ0 a j) ∧ φ 26 1 = φ0 26 1
def sm_st (ψ0 ψ : qm_F) : Prop := ∀ a j, (a = 2 ∧ j < 7) ∨ (3 ≤ a ∧ a ≤ 5 ∧ j < 15) ∨ (a = 6 ∧ j < 144) ∨ ((a = 7 ∨ a = 8 ∨ (11 ≤ a ∧ a ≤ 13)) ∧ j < 800) ∨ ((a = 9 ∨ a = 10 ∨ a = 14) ∧ j = 0) ∨ a = 16 → ψ a j = ψ0 a j
def sx_I (gg nI : Nat) (φ0 : qm_F) (V : Nat → Nat → Nat) (u : Nat) (φ : qm_F) : Prop :=
  sx_st φ0 φ ∧ φ 25 1 = Int32.ofNat nI ∧ φ 25 3 = Int32.ofNat u ∧ (∀ g i, g < gg → i < nI → φ 3 (g * nI + i) = 0 ∨ φ 3 (g * nI + i) = Int32.ofNat (V g i + 1))
def sm_I (gg nI : Nat) (ψ0 : qm_F) (V : Nat → Nat → Nat) (u : Nat) (ψ : qm_F) : Prop :=
  sm_st ψ0 ψ ∧ ψ 0 43 = Int32.ofNat u ∧ (ψ 0 40 = 0 ∨ (ψ 0 40 = 1 ∧ ∀ g i, g < gg → i < nI → ψ 19 (128 * g + i) = Int32.ofNat (V g i)))
def sx_f (φ φ' : qm_F) : Prop := ∀ a j, a ≠ 3 → ¬ (26 ≤ a ∧ a ≤ 29) → φ' a j = φ a j
def sm_f (ψ ψ' : qm_F) : Prop := ∀ a j, ¬ (a = 0 ∧ (36 ≤ j ∧ j ≤ 38 ∨ j = 40)) → ¬ (a = 17 ∨ a = 18 ∨ a = 19) → ψ' a j = ψ a j
theorem sx_f.trans {φ φ' φ'' : qm_F} (h : sx_f φ φ') (h' : sx_f φ' φ'') : sx_f φ φ'' := fun a j x y => (h' a j x y).trans (h a j x y)
theorem sm_f.trans {ψ ψ' ψ'' : qm_F} (h : sm_f ψ ψ') (h' : sm_f ψ' ψ'') : sm_f ψ ψ'' := fun a j x y => (h' a j x y).trans (h a j x y)
theorem sx_f0 (φ : qm_F) : sx_f φ φ := fun _ _ _ _ => rfl
theorem sm_f0 (ψ : qm_F) : sm_f ψ ψ := fun _ _ _ _ => rfl
/-- all that the search needs of a sketch -/
def ss_H (F nR nN nT gg nI : Nat) (φ0 ψ0 : qm_F) (V : Nat → Nat → Nat) (u : Nat) : Prop :=
  (∀ φ, sx_st φ0 φ → ∀ g i, g < gg → i < nI → ∃ φ', ma_run F nR nN nT gg φ (Int32.ofNat g) (Int32.ofNat i) (Int32.ofNat u) = some φ' ∧ φ' 26 9 = Int32.ofNat (V g i) ∧ rs_fx φ φ') ∧
  (∀ ψ, sm_st ψ0 ψ → ψ 0 43 = Int32.ofNat u → ∀ g i, g < gg → i < nI → ∃ ψ', mo_ran F ψ (Int32.ofNat g) (Int32.ofNat i) = some (Int32.ofNat (V g i), ψ') ∧ rn_fm ψ ψ') ∧
  (∀ g i, g < gg → i < nI → V g i ≤ 5) ∧ 1 ≤ gg ∧ gg ≤ 128 ∧ 1 ≤ nI ∧ nI ≤ 128 ∧ gg * nI ≤ nR ∧ nR ≤ 16384 ∧ 200000 ≤ F ∧
  ((1 : Int32) <<< (φ0 14 6 &&& 31)) = Int32.ofNat gg ∧ ((1 : Int32) <<< (φ0 14 5 &&& 31)) = Int32.ofNat nI ∧ ((1 : Int32) <<< (ψ0 2 6 &&& 31)) = Int32.ofNat gg ∧ ((1 : Int32) <<< (ψ0 2 5 &&& 31)) = Int32.ofNat nI
section S0
variable {F nR nN nT gg nI u : Nat} {φ0 ψ0 φ ψ : qm_F} {V : Nat → Nat → Nat}
theorem ss_cell {g i : Nat} (hg : g < gg) (hi : i < nI) (h : gg * nI ≤ nR) : g * nI + i < nR := by
  have : (g + 1) * nI ≤ gg * nI := Nat.mul_le_mul_right nI hg
  rw [Nat.add_mul, Nat.one_mul] at this
  omega
theorem ss_inj {g i g' i' : Nat} (hi : i < nI) (hi' : i' < nI) (h : g * nI + i = g' * nI + i') : g = g' ∧ i = i' := by
  have e1 : (g * nI + i) / nI = g := by rw [Nat.mul_comm, Nat.mul_add_div (by omega), Nat.div_eq_of_lt hi, Nat.add_zero]
  have e2 : (g' * nI + i') / nI = g' := by rw [Nat.mul_comm, Nat.mul_add_div (by omega), Nat.div_eq_of_lt hi', Nat.add_zero]
  have : g = g' := by rw [← e1, ← e2, h]
  subst this
  exact ⟨rfl, by omega⟩
theorem sx_verdict (H : ss_H F nR nN nT gg nI φ0 ψ0 V u) (hI : sx_I gg nI φ0 V u φ) {g i : Nat} (hg : g < gg) (hi : i < nI) : ∃ φ', ve_verdictOf F nR nN nT gg φ (Int32.ofNat g) (Int32.ofNat i) = some (Int32.ofNat (V g i), φ') ∧ sx_I gg nI φ0 V u φ' ∧ sx_f φ φ' := by
  obtain ⟨H1, H2, H3, H4, H5, H6, H7, H8, H9, H10, H11, H12, H13, H14⟩ := H
  obtain ⟨I1, I2, I3, I4⟩ := hI
  have hc := ss_cell (nR := nR) hg hi H8
  have hV := H3 g i hg hi
  have e1 : Int32.ofNat g * φ 25 1 + Int32.ofNat i = Int32.ofNat (g * nI + i) := by rw [I2, ya_mul, ya_add]
  have l62 : ∀ φ1 : qm_F, φ1 3 (g * nI + i) = Int32.ofNat (V g i + 1) → ve_verdictOf_L62 F nR nN nT gg φ1 (Int32.ofNat (g * nI + i)) = some (Int32.ofNat (V g i), φ1) := by
    intro φ1 h1
    unfold ve_verdictOf_L62
    rw [ya_in (by omega) (by omega), ya_nn (by omega), h1, ya_sub1 (by omega), Nat.add_sub_cancel]
    rfl
  unfold ve_verdictOf
  rw [e1, if_neg (ya_lt0 (by omega)), show decide (nR < 2147483648) = true from decide_eq_true (by omega), if_pos (by rw [ya_lt (by omega) (by omega)]; exact hc), ya_in (by omega) hc, ya_nn (by omega)]
  simp only [yg1]
  by_cases q : φ 3 (g * nI + i) = 0
  · obtain ⟨φ1, r1, r2, r3⟩ := H1 φ I1 g i hg hi
    rw [if_neg (by simp [q]), I3, r1]
    simp only [yb1]
    unfold ma_outcome
    simp only [yb1]
    have eb : qm_by (qm_by (φ1 26 9 + 1)) = Int32.ofNat (V g i + 1) := by
      rw [r2, ya_add1]
      have : ∀ w, w ≤ 5 → qm_by (qm_by (Int32.ofNat (w + 1))) = Int32.ofNat (w + 1) := by decide
      exact this _ hV
    rw [eb]
    have hu3 : (qm_u φ1 3 (g * nI + i) (Int32.ofNat (V g i + 1))) 3 (g * nI + i) = Int32.ofNat (V g i + 1) := ya_u_same _ _ _ _
    have uo : ∀ a j, a ≠ 3 → (qm_u φ1 3 (g * nI + i) (Int32.ofNat (V g i + 1))) a j = φ1 a j := fun a j ha => by simp [qm_u, ha]
    refine ⟨_, l62 _ hu3, ⟨⟨fun a j a1 a2 => ?_, ?_⟩, ?_, ?_, fun g' i' hg' hi' => ?_⟩, fun a j a1 a2 => ?_⟩
    · rw [uo a j (by omega), r3 a j (by omega) (by omega)]; exact I1.1 a j a1 a2
    · rw [uo 26 1 (by omega), r3 26 1 (by omega) (by omega)]; exact I1.2
    · rw [uo 25 1 (by omega), r3 25 1 (by omega) (by omega)]; exact I2
    · rw [uo 25 3 (by omega), r3 25 3 (by omega) (by omega)]; exact I3
    · by_cases w : g' * nI + i' = g * nI + i
      · obtain ⟨w1, w2⟩ := ss_inj hi' hi w
        subst w1 w2
        exact Or.inr hu3
      · have : (qm_u φ1 3 (g * nI + i) (Int32.ofNat (V g i + 1))) 3 (g' * nI + i') = φ 3 (g' * nI + i') := by
          rw [← r3 3 (g' * nI + i') (by omega) (by omega)]
          simp [qm_u, w]
        rw [this]
        exact I4 g' i' hg' hi'
    · rw [uo a j a1, r3 a j (by omega) (by omega)]
  · rw [if_pos q]
    rcases I4 g i hg hi with z | z
    · exact absurd z q
    · exact ⟨φ, l62 φ z, ⟨I1, I2, I3, I4⟩, sx_f0 φ⟩
/-- the reference's table is laid -/
theorem sm_lay (H : ss_H F nR nN nT gg nI φ0 ψ0 V u) {x1 x2 : Int32} : ∀ (m g i : Nat) (ψ1 : qm_F), (gg - g) * (nI + 2) + 1 ≤ m + i → (i = 0 → (gg - g) * (nI + 2) + 2 ≤ m) → g ≤ gg → i ≤ nI → (g < gg ∨ i = 0) → sm_st ψ0 ψ1 → ψ1 0 43 = Int32.ofNat u → (∀ g' i', (g' < g ∧ i' < nI) ∨ (g' = g ∧ i' < i) → ψ1 19 (128 * g' + i') = Int32.ofNat (V g' i')) →
    ∃ ψ', mo_verdictOf_L9 F m (if i = 0 then 0 else 1) ψ1 x1 x2 (Int32.ofNat g) (Int32.ofNat i) = mo_verdictOf_L67 F (qm_u ψ' 0 40 1) x1 x2 ∧ sm_st ψ0 ψ' ∧ ψ' 0 43 = Int32.ofNat u ∧ sm_f ψ1 ψ' ∧ (∀ g' i', g' < gg → i' < nI → ψ' 19 (128 * g' + i') = Int32.ofNat (V g' i')) := by
  obtain ⟨H1, H2, H3, H4, H5, H6, H7, H8, H9, H10, H11, H12, H13, H14⟩ := H
  intro m
  induction m using Nat.strongRecOn with
  | _ m ih =>
    intro g i ψ1 h1 h10 h2 h3 h4 hst hu ht
    have eg : mo_guesses F ψ1 = some (Int32.ofNat gg) := by
      unfold mo_guesses
      rw [hst 2 6 (by omega), H13]
    have ei : mo_inputs F ψ1 = some (Int32.ofNat nI) := by
      unfold mo_inputs
      rw [hst 2 5 (by omega), H14]
    -- one input within a guess
    have inner : ∀ (m' i : Nat), m' < m + 1 → (gg - g) * (nI + 2) + 1 ≤ m' + i → g < gg → i ≤ nI → (∀ g' i', (g' < g ∧ i' < nI) ∨ (g' = g ∧ i' < i) → ψ1 19 (128 * g' + i') = Int32.ofNat (V g' i')) → m' ≤ m → ∃ ψ', mo_verdictOf_L9 F m' 1 ψ1 x1 x2 (Int32.ofNat g) (Int32.ofNat i) = mo_verdictOf_L67 F (qm_u ψ' 0 40 1) x1 x2 ∧ sm_st ψ0 ψ' ∧ ψ' 0 43 = Int32.ofNat u ∧ sm_f ψ1 ψ' ∧ (∀ g' i', g' < gg → i' < nI → ψ' 19 (128 * g' + i') = Int32.ofNat (V g' i')) := by
      intro m' i hm' h1 hg hi ht hmm
      have hmul : (gg - g) * (nI + 2) = (gg - (g + 1)) * (nI + 2) + (nI + 2) := by
        rw [show gg - g = (gg - (g + 1)) + 1 by omega, Nat.add_mul, Nat.one_mul]
      obtain ⟨m', rfl⟩ : ∃ z, m' = z + 1 := ⟨m' - 1, by omega⟩
      by_cases q : i = nI
      · subst q
        have e : mo_verdictOf_L9 F (m' + 1) 1 ψ1 x1 x2 (Int32.ofNat g) (Int32.ofNat i) = mo_verdictOf_L9 F m' 0 ψ1 x1 x2 (Int32.ofNat (g + 1)) (Int32.ofNat 0) := by
          conv => lhs; unfold mo_verdictOf_L9
          rw [if_neg (by omega), ei]
          simp only [yb1]
          rw [if_pos (by rw [ya_le (by omega) (by omega)]; omega), ya_add1]
          rfl
        rw [e]
        have := ih m' (by omega) (g + 1) 0 ψ1 (by omega) (fun _ => by omega) (by omega) (by omega) (Or.inr rfl) hst hu (fun g' i' hh => ht g' i' (by omega))
        rw [if_pos rfl] at this
        exact this
      · obtain ⟨ψ2, r1, r2⟩ := H2 ψ1 hst hu g i hg (by omega)
        have hV := H3 g i hg (by omega)
        obtain ⟨ψ3, e3⟩ : ∃ ψ3, ψ3 = qm_u ψ2 19 (128 * g + i) (Int32.ofNat (V g i)) := ⟨_, rfl⟩
        have f3 : sm_f ψ1 ψ3 := by
          intro a j a1 a2
          rw [← r2 a j (by omega) (by omega), e3]
          have : a ≠ 19 := by omega
          simp [qm_u, this]
        have e : mo_verdictOf_L9 F (m' + 1) 1 ψ1 x1 x2 (Int32.ofNat g) (Int32.ofNat i) = mo_verdictOf_L9 F m' 1 ψ3 x1 x2 (Int32.ofNat g) (Int32.ofNat (i + 1)) := by
          conv => lhs; unfold mo_verdictOf_L9
          rw [if_neg (by omega), ei]
          simp only [yb1]
          rw [if_neg (by rw [ya_le (by omega) (by omega)]; omega), r1]
          simp only [yb2]
          have eb : qm_by (qm_by (Int32.ofNat (V g i))) = Int32.ofNat (V g i) := by
            have : ∀ w, w ≤ 5 → qm_by (qm_by (Int32.ofNat w)) = Int32.ofNat w := by decide
            exact this _ hV
          rw [show (128 : Int32) * Int32.ofNat g = Int32.ofNat (128 * g) from ya_mul 128 g, ya_add, ya_in (by omega) (by omega), ya_nn (by omega), eb, ya_add1, ← e3]
          rfl
        have := ih m' (by omega) g (i + 1) ψ3 (by omega) (fun z => by omega) h2 (by omega) (Or.inl hg) (fun a j ha => by rw [f3 a j (by omega) (by omega)]; exact hst a j ha) (by rw [f3 0 43 (by omega) (by omega)]; exact hu) (fun g' i' hh => by
          by_cases w : g' = g ∧ i' = i
          · obtain ⟨rfl, rfl⟩ := w
            rw [e3]; exact ya_u_same _ _ _ _
          · have hi128 : i' < 128 := by omega
            have : 128 * g' + i' ≠ 128 * g + i := by omega
            rw [e3]
            have e5 : (qm_u ψ2 19 (128 * g + i) (Int32.ofNat (V g i))) 19 (128 * g' + i') = ψ2 19 (128 * g' + i') := by simp [qm_u, this]
            rw [e5, r2 19 _ (by omega) (by omega)]
            exact ht g' i' (by omega))
        rw [if_neg (by omega)] at this
        obtain ⟨ψ', e6, s1, s2, s3, s4⟩ := this
        exact ⟨ψ', e.trans e6, s1, s2, f3.trans s3, s4⟩
    by_cases q0 : i = 0
    · subst q0
      rw [if_pos rfl]
      have h10' := h10 rfl
      obtain ⟨m, rfl⟩ : ∃ z, m = z + 1 := ⟨m - 1, by omega⟩
      by_cases qg : g = gg
      · refine ⟨ψ1, ?_, hst, hu, sm_f0 ψ1, fun g' i' a b => ht g' i' (by omega)⟩
        conv => lhs; unfold mo_verdictOf_L9
        rw [if_pos rfl, eg]
        simp only [yb1]
        rw [if_pos (by rw [ya_le (by omega) (by omega)]; omega)]
      · have e : mo_verdictOf_L9 F (m + 1) 0 ψ1 x1 x2 (Int32.ofNat g) (Int32.ofNat 0) = mo_verdictOf_L9 F m 1 ψ1 x1 x2 (Int32.ofNat g) (Int32.ofNat 0) := by
          conv => lhs; unfold mo_verdictOf_L9
          rw [if_pos rfl, eg]
          simp only [yb1]
          rw [if_neg (by rw [ya_le (by omega) (by omega)]; omega)]
          rfl
        rw [e]
        exact inner m 0 (by omega) (by omega) (by omega) (by omega) (fun g' i' hh => ht g' i' (by omega)) (by omega)
    · rw [if_neg q0]
      exact inner m i (by omega) (by omega) (by omega) h3 ht (Nat.le_refl _)
theorem sm_verdict (H : ss_H F nR nN nT gg nI φ0 ψ0 V u) (hI : sm_I gg nI ψ0 V u ψ) {g i : Nat} (hg : g < gg) (hi : i < nI) : ∃ ψ', mo_verdictOf F ψ (Int32.ofNat g) (Int32.ofNat i) = some (Int32.ofNat (V g i), ψ') ∧ sm_I gg nI ψ0 V u ψ' ∧ sm_f ψ ψ' := by
  have H' := H
  obtain ⟨H1, H2, H3, H4, H5, H6, H7, H8, H9, H10, H11, H12, H13, H14⟩ := H'
  obtain ⟨I1, I2, I3⟩ := hI
  have l67 : ∀ ψ1 : qm_F, (∀ g i, g < gg → i < nI → ψ1 19 (128 * g + i) = Int32.ofNat (V g i)) → mo_verdictOf_L67 F ψ1 (Int32.ofNat g) (Int32.ofNat i) = some (Int32.ofNat (V g i), ψ1) := by
    intro ψ1 h1
    unfold mo_verdictOf_L67
    rw [show (128 : Int32) * Int32.ofNat g = Int32.ofNat (128 * g) from ya_mul 128 g, ya_add, ya_in (by omega) (by omega), ya_nn (by omega), h1 g i hg hi]
    rfl
  unfold mo_verdictOf
  rcases I3 with z | ⟨z, ht⟩
  · rw [if_neg (by simp [z])]
    have hle : (gg - 0) * (nI + 2) ≤ 128 * 130 := Nat.mul_le_mul (by omega) (by omega)
    obtain ⟨ψ', e, s1, s2, s3, s4⟩ := sm_lay (x1 := Int32.ofNat g) (x2 := Int32.ofNat i) H F 0 0 ψ (by omega) (fun _ => by omega) (by omega) (by omega) (Or.inr rfl) I1 I2 (fun g' i' hh => by omega)
    rw [if_pos rfl] at e
    rw [show mo_verdictOf_L9 F F 0 ψ (Int32.ofNat g) (Int32.ofNat i) 0 0 = _ from e]
    refine ⟨_, l67 _ s4, ⟨fun a j ha => ?_, s2, Or.inr ⟨rfl, s4⟩⟩, fun a j a1 a2 => ?_⟩
    · rw [← s1 a j ha]
      unfold qm_u
      repeat' split
      all_goals first | rfl | omega
    · rw [← s3 a j a1 a2]
      unfold qm_u
      repeat' split
      all_goals first | rfl | omega
  · rw [if_pos (by rw [z]; decide)]
    exact ⟨ψ, l67 ψ ht, ⟨I1, I2, Or.inr ⟨z, ht⟩⟩, sm_f0 ψ⟩
end S0
