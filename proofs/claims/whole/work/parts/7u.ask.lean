/-! SEMANTICS: questions about guesses and inputs -/
def ss_least (V : Nat → Nat → Nat) (nI g : Nat) : Int32 := sp_find (fun i => decide (V g i ≠ 0)) Int32.ofNat (-1) 0 nI
def ss_alike (V : Nat → Nat → Nat) (nI g h : Nat) : Int32 := sp_find (fun i => decide (V g i ≠ V h i)) (fun _ => 0) 1 0 nI
def ss_with (V : Nat → Nat → Nat) (nI g : Nat) (v : Int32) : Nat := sp_cnt (fun i => decide (Int32.ofNat (V g i) = v)) 0 nI
section S1
variable {F nR nN nT gg nI u : Nat} {φ0 ψ0 φ ψ : qm_F} {V : Nat → Nat → Nat}
theorem ss_F (H : ss_H F nR nN nT gg nI φ0 ψ0 V u) : 200000 ≤ F ∧ gg ≤ 128 ∧ nI ≤ 128 ∧ nR ≤ 16384 ∧ 1 ≤ gg ∧ 1 ≤ nI ∧ gg * nI ≤ nR := by
  obtain ⟨H1, H2, H3, H4, H5, H6, H7, H8, H9, H10, H11, H12, H13, H14⟩ := H
  exact ⟨H10, H5, H7, H9, H4, H6, H8⟩
theorem ss_V5 (H : ss_H F nR nN nT gg nI φ0 ψ0 V u) {g i : Nat} (hg : g < gg) (hi : i < nI) : V g i ≤ 5 := H.2.2.1 g i hg hi
theorem sx_gi (H : ss_H F nR nN nT gg nI φ0 ψ0 V u) (h : sx_st φ0 φ) : pr_guesses F nR nN nT φ = some (Int32.ofNat gg) ∧ pr_inputs F nR nN nT φ = some (Int32.ofNat nI) := by
  obtain ⟨H1, H2, H3, H4, H5, H6, H7, H8, H9, H10, H11, H12, H13, H14⟩ := H
  unfold pr_guesses pr_inputs
  rw [h.1 14 6 (by omega) (by omega), h.1 14 5 (by omega) (by omega), H11, H12]
  exact ⟨rfl, rfl⟩
theorem sm_gi (H : ss_H F nR nN nT gg nI φ0 ψ0 V u) (h : sm_st ψ0 ψ) : mo_guesses F ψ = some (Int32.ofNat gg) ∧ mo_inputs F ψ = some (Int32.ofNat nI) := by
  obtain ⟨H1, H2, H3, H4, H5, H6, H7, H8, H9, H10, H11, H12, H13, H14⟩ := H
  unfold mo_guesses mo_inputs
  rw [h 2 6 (by omega), h 2 5 (by omega), H13, H14]
  exact ⟨rfl, rfl⟩
theorem ss_0 {w : Nat} (hw : w ≤ 5) : (Int32.ofNat w = 0 ↔ w = 0) ∧ (Int32.ofNat w ≤ 0 ↔ w = 0) := by
  constructor
  · rw [show (0 : Int32) = Int32.ofNat 0 from rfl, ya_eq (by omega) (by omega)]
  · rw [show (0 : Int32) = Int32.ofNat 0 from rfl, ya_le (by omega) (by omega)]; omega
theorem sx_least (H : ss_H F nR nN nT gg nI φ0 ψ0 V u) (hI : sx_I gg nI φ0 V u φ) {g : Nat} (hg : g < gg) : ∃ φ', ve_leastRefuter F nR nN nT gg φ (Int32.ofNat g) = some (ss_least V nI g, φ') ∧ sx_I gg nI φ0 V u φ' ∧ sx_f φ φ' := by
  have hF := ss_F H
  obtain ⟨φ', ⟨a, b⟩, e⟩ := sg_find (L := fun m φ i => ve_leastRefuter_L2 F nR nN nT gg m φ (Int32.ofNat g) i) (I := fun φ1 => sx_I gg nI φ0 V u φ1 ∧ sx_f φ φ1) (N := nI) (fun i => decide (V g i ≠ 0)) Int32.ofNat (-1) (fun m φ1 i hh hi => by
      obtain ⟨φ2, e1, e2, e3⟩ := sx_verdict H hh.1 hg hi
      refine ⟨φ2, ⟨e2, hh.2.trans e3⟩, ?_⟩
      conv => lhs; unfold ve_leastRefuter_L2
      rw [hh.1.2.1, if_neg (by rw [ya_le (by omega) (by omega)]; omega), e1]
      simp only [yb2]
      have z := ss_0 (ss_V5 H hg hi)
      by_cases q : V g i = 0
      · rw [if_pos (z.1.mpr q), if_neg (by simp [q]), ya_add1]
      · rw [if_neg (fun y => q (z.1.mp y)), if_pos (by simp [q])]) (fun m φ1 hh => by
      show ve_leastRefuter_L2 F nR nN nT gg (m + 1) φ1 (Int32.ofNat g) (Int32.ofNat nI) = _
      unfold ve_leastRefuter_L2
      rw [hh.1.2.1, if_pos (by rw [ya_le (by omega) (by omega)]; omega)]) nI F 0 φ (by omega) (by omega) ⟨hI, sx_f0 φ⟩
  exact ⟨φ', e, a, b⟩
theorem sm_least (H : ss_H F nR nN nT gg nI φ0 ψ0 V u) (hI : sm_I gg nI ψ0 V u ψ) {g : Nat} (hg : g < gg) : ∃ ψ', mo_refuterOf F ψ (Int32.ofNat g) = some (ss_least V nI g, ψ') ∧ sm_I gg nI ψ0 V u ψ' ∧ sm_f ψ ψ' := by
  have hF := ss_F H
  obtain ⟨ψ', ⟨a, b⟩, e⟩ := sg_find (L := fun m φ i => mo_refuterOf_L2 F m φ (Int32.ofNat g) i) (I := fun φ1 => sm_I gg nI ψ0 V u φ1 ∧ sm_f ψ φ1) (N := nI) (fun i => decide (V g i ≠ 0)) Int32.ofNat (-1) (fun m φ1 i hh hi => by
      obtain ⟨φ2, e1, e2, e3⟩ := sm_verdict H hh.1 hg hi
      refine ⟨φ2, ⟨e2, hh.2.trans e3⟩, ?_⟩
      conv => lhs; unfold mo_refuterOf_L2
      rw [(sm_gi H hh.1.1).2]
      simp only [yb1]
      rw [if_neg (by rw [ya_le (by omega) (by omega)]; omega), e1]
      simp only [yb2]
      have z := ss_0 (ss_V5 H hg hi)
      by_cases q : V g i = 0
      · rw [if_pos (z.2.mpr q), if_neg (by simp [q]), ya_add1]
      · rw [if_neg (fun y => q (z.2.mp y)), if_pos (by simp [q])]) (fun m φ1 hh => by
      show mo_refuterOf_L2 F (m + 1) φ1 (Int32.ofNat g) (Int32.ofNat nI) = _
      unfold mo_refuterOf_L2
      rw [(sm_gi H hh.1.1).2]
      simp only [yb1]
      rw [if_pos (by rw [ya_le (by omega) (by omega)]; omega)]) nI F 0 ψ (by omega) (by omega) ⟨hI, sm_f0 ψ⟩
  exact ⟨ψ', e, a, b⟩
theorem sx_alike (H : ss_H F nR nN nT gg nI φ0 ψ0 V u) (hI : sx_I gg nI φ0 V u φ) {g h : Nat} (hg : g < gg) (hh' : h < gg) : ∃ φ', ve_areAlike F nR nN nT gg φ (Int32.ofNat g) (Int32.ofNat h) = some (ss_alike V nI g h, φ') ∧ sx_I gg nI φ0 V u φ' ∧ sx_f φ φ' := by
  have hF := ss_F H
  obtain ⟨φ', ⟨a, b⟩, e⟩ := sg_find (L := fun m φ i => ve_areAlike_L2 F nR nN nT gg m φ (Int32.ofNat g) (Int32.ofNat h) i) (I := fun φ1 => sx_I gg nI φ0 V u φ1 ∧ sx_f φ φ1) (N := nI) (fun i => decide (V g i ≠ V h i)) (fun _ => 0) 1 (fun m φ1 i hh hi => by
      obtain ⟨φ2, e1, e2, e3⟩ := sx_verdict H hh.1 hg hi
      obtain ⟨φ3, d1, d2, d3⟩ := sx_verdict H e2 hh' hi
      refine ⟨φ3, ⟨d2, (hh.2.trans e3).trans d3⟩, ?_⟩
      conv => lhs; unfold ve_areAlike_L2
      rw [hh.1.2.1, if_neg (by rw [ya_le (by omega) (by omega)]; omega), e1]
      simp only [yb2]
      rw [d1]
      simp only [yb2]
      have z1 := ss_V5 H hg hi
      have z2 := ss_V5 H hh' hi
      by_cases q : V g i = V h i
      · rw [if_pos (by rw [q]), if_neg (by simp [q]), ya_add1]
      · rw [if_neg (by rw [ya_eq (by omega) (by omega)]; exact q), if_pos (by simp [q])]) (fun m φ1 hh => by
      show ve_areAlike_L2 F nR nN nT gg (m + 1) φ1 (Int32.ofNat g) (Int32.ofNat h) (Int32.ofNat nI) = _
      unfold ve_areAlike_L2
      rw [hh.1.2.1, if_pos (by rw [ya_le (by omega) (by omega)]; omega)]) nI F 0 φ (by omega) (by omega) ⟨hI, sx_f0 φ⟩
  exact ⟨φ', e, a, b⟩
theorem sm_alike (H : ss_H F nR nN nT gg nI φ0 ψ0 V u) (hI : sm_I gg nI ψ0 V u ψ) {g h : Nat} (hg : g < gg) (hh' : h < gg) : ∃ ψ', mo_areAlike F ψ (Int32.ofNat g) (Int32.ofNat h) = some (ss_alike V nI g h, ψ') ∧ sm_I gg nI ψ0 V u ψ' ∧ sm_f ψ ψ' := by
  have hF := ss_F H
  obtain ⟨ψ', ⟨a, b⟩, e⟩ := sg_find (L := fun m φ i => mo_areAlike_L2 F m φ (Int32.ofNat g) (Int32.ofNat h) i) (I := fun φ1 => sm_I gg nI ψ0 V u φ1 ∧ sm_f ψ φ1) (N := nI) (fun i => decide (V g i ≠ V h i)) (fun _ => 0) 1 (fun m φ1 i hh hi => by
      obtain ⟨φ2, e1, e2, e3⟩ := sm_verdict H hh.1 hg hi
      obtain ⟨φ3, d1, d2, d3⟩ := sm_verdict H e2 hh' hi
      refine ⟨φ3, ⟨d2, (hh.2.trans e3).trans d3⟩, ?_⟩
      conv => lhs; unfold mo_areAlike_L2
      rw [(sm_gi H hh.1.1).2]
      simp only [yb1]
      rw [if_neg (by rw [ya_le (by omega) (by omega)]; omega), e1]
      simp only [yb2]
      rw [d1]
      simp only [yb2]
      have z1 := ss_V5 H hg hi
      have z2 := ss_V5 H hh' hi
      by_cases q : V g i = V h i
      · rw [if_pos (by rw [q]), if_neg (by simp [q]), ya_add1]
      · rw [if_neg (by rw [ya_eq (by omega) (by omega)]; exact q), if_pos (by simp [q])]) (fun m φ1 hh => by
      show mo_areAlike_L2 F (m + 1) φ1 (Int32.ofNat g) (Int32.ofNat h) (Int32.ofNat nI) = _
      unfold mo_areAlike_L2
      rw [(sm_gi H hh.1.1).2]
      simp only [yb1]
      rw [if_pos (by rw [ya_le (by omega) (by omega)]; omega)]) nI F 0 ψ (by omega) (by omega) ⟨hI, sm_f0 ψ⟩
  exact ⟨ψ', e, a, b⟩
theorem sx_with (H : ss_H F nR nN nT gg nI φ0 ψ0 V u) (hI : sx_I gg nI φ0 V u φ) {g : Nat} (hg : g < gg) (v : Int32) : ∃ φ', ve_inputsWith F nR nN nT gg φ (Int32.ofNat g) v = some (Int32.ofNat (ss_with V nI g v), φ') ∧ sx_I gg nI φ0 V u φ' ∧ sx_f φ φ' := by
  have hF := ss_F H
  obtain ⟨φ', ⟨a, b⟩, e⟩ := sg_cnt (L := fun m φ n i => ve_inputsWith_L5 F nR nN nT gg m φ (Int32.ofNat g) v n i) (I := fun φ1 => sx_I gg nI φ0 V u φ1 ∧ sx_f φ φ1) (N := nI) (fun i => decide (Int32.ofNat (V g i) = v)) (fun m φ1 i n hh hi => by
      obtain ⟨φ2, e1, e2, e3⟩ := sx_verdict H hh.1 hg hi
      refine ⟨φ2, ⟨e2, hh.2.trans e3⟩, ?_⟩
      conv => lhs; unfold ve_inputsWith_L5
      rw [hh.1.2.1, if_neg (by rw [ya_le (by omega) (by omega)]; omega), e1]
      simp only [yb2]
      by_cases q : Int32.ofNat (V g i) = v
      · rw [if_neg (by simp [q]), if_pos (by simp [q]), ya_add1, ya_add1]
      · rw [if_pos q, if_neg (by simp [q]), ya_add1]
        rfl) (fun m φ1 n hh => by
      show ve_inputsWith_L5 F nR nN nT gg (m + 1) φ1 (Int32.ofNat g) v (Int32.ofNat n) (Int32.ofNat nI) = _
      unfold ve_inputsWith_L5
      rw [hh.1.2.1, if_pos (by rw [ya_le (by omega) (by omega)]; omega)]) nI F 0 0 φ (by omega) (by omega) ⟨hI, sx_f0 φ⟩
  rw [Nat.zero_add] at e
  exact ⟨φ', e, a, b⟩
theorem sm_with (H : ss_H F nR nN nT gg nI φ0 ψ0 V u) (hI : sm_I gg nI ψ0 V u ψ) {g : Nat} (hg : g < gg) (v x4 : Int32) : ∃ ψ', mo_by_L32 F F ψ (Int32.ofNat g) v 0 0 = some (Int32.ofNat (ss_with V nI g v), ψ') ∧ sm_I gg nI ψ0 V u ψ' ∧ sm_f ψ ψ' := by
  have hF := ss_F H
  obtain ⟨ψ', ⟨a, b⟩, e⟩ := sg_cnt (L := fun m φ n i => mo_by_L32 F m φ (Int32.ofNat g) v n i) (I := fun φ1 => sm_I gg nI ψ0 V u φ1 ∧ sm_f ψ φ1) (N := nI) (fun i => decide (Int32.ofNat (V g i) = v)) (fun m φ1 i n hh hi => by
      obtain ⟨φ2, e1, e2, e3⟩ := sm_verdict H hh.1 hg hi
      refine ⟨φ2, ⟨e2, hh.2.trans e3⟩, ?_⟩
      conv => lhs; unfold mo_by_L32
      rw [(sm_gi H hh.1.1).2]
      simp only [yb1]
      rw [if_neg (by rw [ya_le (by omega) (by omega)]; omega), e1]
      simp only [yb2]
      by_cases q : Int32.ofNat (V g i) = v
      · rw [if_neg (by simp [q]), if_pos (by simp [q]), ya_add1, ya_add1]
      · rw [if_pos q, if_neg (by simp [q]), ya_add1, show Int32.ofNat n + 0 = Int32.ofNat n from ya_add n 0]
        rfl) (fun m φ1 n hh => by
      show mo_by_L32 F (m + 1) φ1 (Int32.ofNat g) v (Int32.ofNat n) (Int32.ofNat nI) = _
      unfold mo_by_L32
      rw [(sm_gi H hh.1.1).2]
      simp only [yb1]
      rw [if_pos (by rw [ya_le (by omega) (by omega)]; omega)]) nI F 0 0 ψ (by omega) (by omega) ⟨hI, sm_f0 ψ⟩
  rw [Nat.zero_add] at e
  exact ⟨ψ', e, a, b⟩
/-- a number that may be a guess -/
theorem sg_guess (H : ss_H F nR nN nT gg nI φ0 ψ0 V u) (hx : sx_st φ0 φ) (hm : sm_st ψ0 ψ) (h12 : ψ 0 12 = 1) (x : Int32) : (∃ g, g < gg ∧ x = Int32.ofNat g ∧ pr_hasGuess F nR nN nT φ x = some 1 ∧ mo_isGuess F ψ x = some 1) ∨ (pr_hasGuess F nR nN nT φ x = some 0 ∧ mo_isGuess F ψ x = some 0) := by
  have hF := ss_F H
  have e1 := (sx_gi (nR := nR) (nN := nN) (nT := nT) H hx).1
  have e2 := (sm_gi H hm).1
  have em : mo_isGuess F ψ x = some (if x < 0 then 0 else if x ≤ Int32.ofNat (gg - 1) then 1 else 0) := by
    unfold mo_isGuess
    rw [if_neg (by rw [h12]; decide), e2]
    simp only [yb1]
    rw [ya_sub1 (by omega), show (0 : Int64) = Int32.toInt64 0 from by decide, ys_wi]
    simp only [yb1]
    repeat' split
    all_goals first | rfl | contradiction
  rw [em]
  unfold pr_hasGuess
  rw [e1]
  simp only [yb1]
  by_cases q : x < 0
  · rw [if_pos q, if_pos q]
    exact Or.inr ⟨rfl, rfl⟩
  · rw [if_neg q, if_neg q]
    obtain ⟨k, hk, rfl⟩ := ya_nat q
    rw [yi_le (by omega) (by omega), yi_le (by omega) (by omega)]
    by_cases z : k < gg
    · rw [if_neg (by omega), if_pos (by omega)]
      exact Or.inl ⟨k, z, rfl, rfl, rfl⟩
    · rw [if_pos (by omega), if_neg (by omega)]
      exact Or.inr ⟨rfl, rfl⟩
theorem sg_input (H : ss_H F nR nN nT gg nI φ0 ψ0 V u) (hx : sx_st φ0 φ) (hm : sm_st ψ0 ψ) (h12 : ψ 0 12 = 1) (x : Int32) : (∃ g, g < nI ∧ x = Int32.ofNat g ∧ pr_hasInput F nR nN nT φ x = some 1 ∧ mo_isInput F ψ x = some 1) ∨ (pr_hasInput F nR nN nT φ x = some 0 ∧ mo_isInput F ψ x = some 0) := by
  have hF := ss_F H
  have e1 := (sx_gi (nR := nR) (nN := nN) (nT := nT) H hx).2
  have e2 := (sm_gi H hm).2
  have em : mo_isInput F ψ x = some (if x < 0 then 0 else if x ≤ Int32.ofNat (nI - 1) then 1 else 0) := by
    unfold mo_isInput
    rw [if_neg (by rw [h12]; decide), e2]
    simp only [yb1]
    rw [ya_sub1 (by omega), show (0 : Int64) = Int32.toInt64 0 from by decide, ys_wi]
    simp only [yb1]
    repeat' split
    all_goals first | rfl | contradiction
  rw [em]
  unfold pr_hasInput
  rw [e1]
  simp only [yb1]
  by_cases q : x < 0
  · rw [if_pos q, if_pos q]
    exact Or.inr ⟨rfl, rfl⟩
  · rw [if_neg q, if_neg q]
    obtain ⟨k, hk, rfl⟩ := ya_nat q
    rw [yi_le (by omega) (by omega), yi_le (by omega) (by omega)]
    by_cases z : k < nI
    · rw [if_neg (by omega), if_pos (by omega)]
      exact Or.inl ⟨k, z, rfl, rfl, rfl⟩
    · rw [if_pos (by omega), if_neg (by omega)]
      exact Or.inr ⟨rfl, rfl⟩
end S1
