/-! SEMANTICS: counts, the first of a group, marks -/
def sp_ix (P : Nat → Bool) : Nat → Nat → Option Nat
  | _, 0 => none
  | i, n + 1 => if P i = true then some i else sp_ix P (i + 1) n
theorem sp_find_ix (P : Nat → Bool) (res : Nat → Int32) (d : Int32) : ∀ n i, sp_find P res d i n = match sp_ix P i n with | some k => res k | none => d := by
  intro n
  induction n with
  | zero => intro i; rfl
  | succ n ih =>
    intro i
    unfold sp_find sp_ix
    by_cases q : P i = true
    · rw [if_pos q, if_pos q]
    · rw [if_neg q, if_neg q]
      exact ih (i + 1)
theorem sp_ix_some (P : Nat → Bool) : ∀ n i k, sp_ix P i n = some k → i ≤ k ∧ k < i + n ∧ P k = true := by
  intro n
  induction n with
  | zero => intro i k h; cases h
  | succ n ih =>
    intro i k h
    unfold sp_ix at h
    by_cases q : P i = true
    · rw [if_pos q] at h
      cases h
      exact ⟨Nat.le_refl _, by omega, q⟩
    · rw [if_neg q] at h
      have := ih (i + 1) k h
      exact ⟨by omega, by omega, this.2.2⟩
theorem sg_findG {L : Nat → qm_F → Int32 → Option (Int32 × qm_F)} {I : qm_F → Prop} {N : Nat} (P : Nat → Bool) (R : Nat → qm_F → Option (Int32 × qm_F)) (E : qm_F → Option (Int32 × qm_F))
    (hs : ∀ m φ i, I φ → i < N → ∃ φ', I φ' ∧ L (m + 1) φ (Int32.ofNat i) = if P i = true then R i φ' else L m φ' (Int32.ofNat (i + 1)))
    (he : ∀ m φ, I φ → L (m + 1) φ (Int32.ofNat N) = E φ) : ∀ (n m i : Nat) (φ : qm_F), n + i = N → n + 1 ≤ m → I φ → ∃ φ', I φ' ∧ L m φ (Int32.ofNat i) = match sp_ix P i n with | some k => R k φ' | none => E φ' := by
  intro n
  induction n with
  | zero =>
    intro m i φ h1 h2 hI
    obtain ⟨m, rfl⟩ : ∃ z, m = z + 1 := ⟨m - 1, by omega⟩
    have : i = N := by omega
    subst this
    exact ⟨φ, hI, he m φ hI⟩
  | succ n ih =>
    intro m i φ h1 h2 hI
    obtain ⟨m, rfl⟩ : ∃ z, m = z + 1 := ⟨m - 1, by omega⟩
    obtain ⟨φ', hI', e⟩ := hs m φ i hI (by omega)
    unfold sp_ix
    by_cases q : P i = true
    · rw [if_pos q] at e ⊢
      exact ⟨φ', hI', e⟩
    · rw [if_neg q] at e ⊢
      obtain ⟨φ2, hI2, e2⟩ := ih m (i + 1) φ' (by omega) (by omega) hI'
      exact ⟨φ2, hI2, e.trans e2⟩
def ss_R (gg : Nat) (rk : Nat → Nat) (φ0 ψ0 : qm_F) : Prop := ∀ k, k < gg → φ0 24 k = Int32.ofNat (rk k) ∧ ψ0 16 k = Int32.ofNat (rk k) ∧ rk k < gg
section S3
variable {F nR nN nT gg nI u nK : Nat} {φ0 ψ0 φ ψ : qm_F} {V : Nat → Nat → Nat} {Hb : List Nat} {pn : Nat → Int32} {kp rk : Nat → Nat} {b : Nat → Bool}
theorem sx_count (H : ss_H F nR nN nT gg nI φ0 ψ0 V u) (hP : ss_P Hb φ0 ψ0) (hI : sx_I gg nI φ0 V u φ) (hK : sx_K nI pn kp nK φ) (hb : ∀ j, j < 40 → b j = true) {w : Nat} (hw : w < 3) : ∃ φ', se_countOf F nR nN nT gg φ (Int32.ofNat w) = some (Int32.ofNat (sp_cnt (ss_of V nI pn Hb kp nK b w) 0 gg), φ') ∧ sx_I gg nI φ0 V u φ' ∧ sx_f φ φ' := by
  have hF := ss_F H
  obtain ⟨φ', ⟨a, c⟩, e⟩ := sg_cnt (L := fun m φ n i => se_countOf_L4 F nR nN nT gg m φ (Int32.ofNat w) n i) (I := fun φ1 => sx_I gg nI φ0 V u φ1 ∧ sx_f φ φ1) (N := gg) (ss_of V nI pn Hb kp nK b w) (fun m φ1 i n hh hi => by
      obtain ⟨φ2, y, e1, e2, e3, e4⟩ := sx_of H hP hh.1 (hK.fr hh.2) hb hw hi
      refine ⟨φ2, ⟨e3, hh.2.trans e4⟩, ?_⟩
      conv => lhs; unfold se_countOf_L4
      rw [(sx_gi H hh.1.1).1]
      simp only [yb1]
      rw [if_neg (by rw [ya_le (by omega) (by omega)]; omega), e1]
      simp only [yb2]
      cases q : ss_of V nI pn Hb kp nK b w i with
      | false =>
        rw [if_pos (e2.mpr q), ya_add1]
        rfl
      | true =>
        rw [if_neg (fun z => by rw [e2.mp z] at q; cases q), ya_add1, ya_add1]
        rfl) (fun m φ1 n hh => by
      show se_countOf_L4 F nR nN nT gg (m + 1) φ1 (Int32.ofNat w) (Int32.ofNat n) (Int32.ofNat gg) = _
      unfold se_countOf_L4
      rw [(sx_gi H hh.1.1).1]
      simp only [yb1]
      rw [if_pos (by rw [ya_le (by omega) (by omega)]; omega)]) gg F 0 0 φ (by omega) (by omega) ⟨hI, sx_f0 φ⟩
  rw [Nat.zero_add] at e
  exact ⟨φ', e, a, c⟩
theorem sm_count (H : ss_H F nR nN nT gg nI φ0 ψ0 V u) (hP : ss_P Hb φ0 ψ0) (hI : sm_I gg nI ψ0 V u ψ) (hK : sm_K nI pn kp nK b ψ) {w : Nat} (hw : w < 3) : ∃ ψ', mo_manyOf F ψ (Int32.ofNat w) = some (Int32.ofNat (sp_cnt (ss_of V nI pn Hb kp nK b w) 0 gg), ψ') ∧ sm_I gg nI ψ0 V u ψ' ∧ sm_f ψ ψ' := by
  have hF := ss_F H
  obtain ⟨φ', ⟨a, c⟩, e⟩ := sg_cnt (L := fun m φ n i => mo_manyOf_L4 F m φ (Int32.ofNat w) n i) (I := fun φ1 => sm_I gg nI ψ0 V u φ1 ∧ sm_f ψ φ1) (N := gg) (ss_of V nI pn Hb kp nK b w) (fun m φ1 i n hh hi => by
      obtain ⟨φ2, y, e1, e2, e3, e4⟩ := sm_of H hP hh.1 (hK.fr hh.2) hw hi
      refine ⟨φ2, ⟨e3, hh.2.trans e4⟩, ?_⟩
      conv => lhs; unfold mo_manyOf_L4
      rw [(sm_gi H hh.1.1).1]
      simp only [yb1]
      rw [if_neg (by rw [ya_le (by omega) (by omega)]; omega), e1]
      simp only [yb2]
      cases q : ss_of V nI pn Hb kp nK b w i with
      | false =>
        rw [if_pos (e2.mpr q), ya_add1, show Int32.ofNat n + 0 = Int32.ofNat n from ya_add n 0]
        rfl
      | true =>
        rw [if_neg (fun z => by rw [e2.mp z] at q; cases q), ya_add1, ya_add1]
        rfl) (fun m φ1 n hh => by
      show mo_manyOf_L4 F (m + 1) φ1 (Int32.ofNat w) (Int32.ofNat n) (Int32.ofNat gg) = _
      unfold mo_manyOf_L4
      rw [(sm_gi H hh.1.1).1]
      simp only [yb1]
      rw [if_pos (by rw [ya_le (by omega) (by omega)]; omega)]) gg F 0 0 ψ (by omega) (by omega) ⟨hI, sm_f0 ψ⟩
  rw [Nat.zero_add] at e
  exact ⟨φ', e, a, c⟩
theorem sx_leftWith (H : ss_H F nR nN nT gg nI φ0 ψ0 V u) (hP : ss_P Hb φ0 ψ0) (hI : sx_I gg nI φ0 V u φ) (hK : sx_K nI pn kp nK φ) {x : Int64} (hx : ∀ j, j < 40 → ss_bt x j = b j) : ∃ φ', se_leftWith F nR nN nT gg φ x = some (Int32.ofNat (sp_cnt (ss_of V nI pn Hb kp nK b 0) 0 gg), φ') ∧ sx_I gg nI φ0 V u φ' ∧ sx_f φ φ' := by
  have hF := ss_F H
  obtain ⟨φ', ⟨a, c⟩, e⟩ := sg_cnt (L := fun m φ n i => se_leftWith_L5 F nR nN nT gg m φ x n i) (I := fun φ1 => sx_I gg nI φ0 V u φ1 ∧ sx_f φ φ1) (N := gg) (ss_of V nI pn Hb kp nK b 0) (fun m φ1 i n hh hi => by
      obtain ⟨φ2, e1, e3, e4⟩ := sx_left H hP hh.1 (hK.fr hh.2) hx hi
      refine ⟨φ2, ⟨e3, hh.2.trans e4⟩, ?_⟩
      conv => lhs; unfold se_leftWith_L5
      rw [show decide (gg < 2147483648) = true from decide_eq_true (by omega), if_neg (by rw [ya_le (by omega) (by omega)]; omega), e1]
      simp only [yg1, yb2]
      unfold ss_of
      rw [if_pos rfl]
      by_cases q : ss_left V pn Hb kp nK b i = 0
      · rw [if_pos q, if_neg (by simp [q]), ya_add1]
        rfl
      · rw [if_neg q, if_pos (by simp [q]), ya_add1, ya_add1]) (fun m φ1 n hh => by
      show se_leftWith_L5 F nR nN nT gg (m + 1) φ1 x (Int32.ofNat n) (Int32.ofNat gg) = _
      unfold se_leftWith_L5
      rw [show decide (gg < 2147483648) = true from decide_eq_true (by omega), if_pos (by rw [ya_le (by omega) (by omega)]; omega)]
      rfl) gg F 0 0 φ (by omega) (by omega) ⟨hI, sx_f0 φ⟩
  rw [Nat.zero_add] at e
  exact ⟨φ', e, a, c⟩
def ss_first (gg : Nat) (P : Nat → Bool) (rk : Nat → Nat) : Int32 := sp_find (fun k => P (rk k)) (fun k => Int32.ofNat (rk k)) (-1) 0 gg
theorem sx_at (H : ss_H F nR nN nT gg nI φ0 ψ0 V u) (hR : ss_R gg rk φ0 ψ0) (h : sx_st φ0 φ) {k : Nat} (hk : k < gg) : pr_guessAt F nR nN nT gg φ (Int32.ofNat k) = some (Int32.ofNat (rk k)) := by
  have hF := ss_F H
  unfold pr_guessAt
  rw [if_neg (ya_lt0 (by omega)), show decide (gg < 2147483648) = true from decide_eq_true (by omega), if_neg (by rw [ya_le (by omega) (by omega)]; omega), ya_in (by omega) hk, ya_nn (by omega), h.1 24 k (by omega) (by omega), (hR k hk).1]
  rfl
theorem sx_first (H : ss_H F nR nN nT gg nI φ0 ψ0 V u) (hP : ss_P Hb φ0 ψ0) (hR : ss_R gg rk φ0 ψ0) (hI : sx_I gg nI φ0 V u φ) (hK : sx_K nI pn kp nK φ) (hb : ∀ j, j < 40 → b j = true) {w : Nat} (hw : w < 3) : ∃ φ', se_firstOf F nR nN nT gg φ (Int32.ofNat w) = some (ss_first gg (ss_of V nI pn Hb kp nK b w) rk, φ') ∧ sx_I gg nI φ0 V u φ' ∧ sx_f φ φ' := by
  have hF := ss_F H
  obtain ⟨φ', ⟨a, c⟩, e⟩ := sg_find (L := fun m φ i => se_firstOf_L2 F nR nN nT gg m φ (Int32.ofNat w) i) (I := fun φ1 => sx_I gg nI φ0 V u φ1 ∧ sx_f φ φ1) (N := gg) (fun k => ss_of V nI pn Hb kp nK b w (rk k)) (fun k => Int32.ofNat (rk k)) (-1) (fun m φ1 i hh hi => by
      obtain ⟨φ2, y, e1, e2, e3, e4⟩ := sx_of H hP hh.1 (hK.fr hh.2) hb hw (hR i hi).2.2
      refine ⟨φ2, ⟨e3, hh.2.trans e4⟩, ?_⟩
      conv => lhs; unfold se_firstOf_L2
      rw [(sx_gi H hh.1.1).1, sx_at H hR hh.1.1 hi]
      simp only [yb1]
      rw [if_neg (by rw [ya_le (by omega) (by omega)]; omega), e1]
      simp only [yb2]
      cases q : ss_of V nI pn Hb kp nK b w (rk i) with
      | false =>
        rw [if_pos (e2.mpr q), ya_add1]
        rfl
      | true =>
        rw [if_neg (fun z => by rw [e2.mp z] at q; cases q)]
        rfl) (fun m φ1 hh => by
      show se_firstOf_L2 F nR nN nT gg (m + 1) φ1 (Int32.ofNat w) (Int32.ofNat gg) = _
      unfold se_firstOf_L2
      rw [(sx_gi H hh.1.1).1]
      simp only [yb1]
      rw [if_pos (by rw [ya_le (by omega) (by omega)]; omega)]) gg F 0 φ (by omega) (by omega) ⟨hI, sx_f0 φ⟩
  exact ⟨φ', e, a, c⟩
theorem sm_first (H : ss_H F nR nN nT gg nI φ0 ψ0 V u) (hP : ss_P Hb φ0 ψ0) (hR : ss_R gg rk φ0 ψ0) (hI : sm_I gg nI ψ0 V u ψ) (hK : sm_K nI pn kp nK b ψ) {w : Nat} (hw : w < 3) : ∃ ψ', mo_firstOf F ψ (Int32.ofNat w) = some (ss_first gg (ss_of V nI pn Hb kp nK b w) rk, ψ') ∧ sm_I gg nI ψ0 V u ψ' ∧ sm_f ψ ψ' := by
  have hF := ss_F H
  obtain ⟨φ', ⟨a, c⟩, e⟩ := sg_find (L := fun m φ i => mo_firstOf_L2 F m φ (Int32.ofNat w) i) (I := fun φ1 => sm_I gg nI ψ0 V u φ1 ∧ sm_f ψ φ1) (N := gg) (fun k => ss_of V nI pn Hb kp nK b w (rk k)) (fun k => Int32.ofNat (rk k)) (-1) (fun m φ1 i hh hi => by
      obtain ⟨φ2, y, e1, e2, e3, e4⟩ := sm_of H hP hh.1 (hK.fr hh.2) hw (hR i hi).2.2
      refine ⟨φ2, ⟨e3, hh.2.trans e4⟩, ?_⟩
      conv => lhs; unfold mo_firstOf_L2
      have e16 : φ1 16 i = Int32.ofNat (rk i) := by rw [hh.1.1 16 i (by omega)]; exact (hR i hi).2.1
      have e16' : φ2 16 i = Int32.ofNat (rk i) := by rw [e3.1 16 i (by omega)]; exact (hR i hi).2.1
      rw [(sm_gi H hh.1.1).1]
      simp only [yb1]
      rw [if_neg (by rw [ya_le (by omega) (by omega)]; omega), ya_in (by omega) (by omega), ya_nn (by omega), e16, e1]
      simp only [yb2, yg1]
      rw [e16']
      cases q : ss_of V nI pn Hb kp nK b w (rk i) with
      | false =>
        rw [if_pos (e2.mpr q), ya_add1]
        rfl
      | true =>
        rw [if_neg (fun z => by rw [e2.mp z] at q; cases q)]
        rfl) (fun m φ1 hh => by
      show mo_firstOf_L2 F (m + 1) φ1 (Int32.ofNat w) (Int32.ofNat gg) = _
      unfold mo_firstOf_L2
      rw [(sm_gi H hh.1.1).1]
      simp only [yb1]
      rw [if_pos (by rw [ya_le (by omega) (by omega)]; omega)]) gg F 0 ψ (by omega) (by omega) ⟨hI, sm_f0 ψ⟩
  exact ⟨φ', e, a, c⟩
/-- TO GUESS, the component's loop -/
theorem sx_guessL (H : ss_H F nR nN nT gg nI φ0 ψ0 V u) (hP : ss_P Hb φ0 ψ0) (hR : ss_R gg rk φ0 ψ0) (hI : sx_I gg nI φ0 V u φ) (hK : sx_K nI pn kp nK φ) (hb : ∀ j, j < 40 → b j = true) : ∃ φ', sx_I gg nI φ0 V u φ' ∧ sx_f φ φ' ∧ se_toGuess_L19 F nR nN nT gg F φ 0 = match sp_ix (fun k => ss_of V nI pn Hb kp nK b 0 (rk k)) 0 gg with | some k => some (Int32.ofNat (rk k), qm_u φ' 30 8 (Int32.ofNat (rk k))) | none => some (-2, qm_u φ' 30 7 2) := by
  have hF := ss_F H
  obtain ⟨φ', ⟨a, c⟩, e⟩ := sg_findG (L := fun m φ i => se_toGuess_L19 F nR nN nT gg m φ i) (I := fun φ1 => sx_I gg nI φ0 V u φ1 ∧ sx_f φ φ1) (N := gg) (fun k => ss_of V nI pn Hb kp nK b 0 (rk k)) (fun k φ' => some (Int32.ofNat (rk k), qm_u φ' 30 8 (Int32.ofNat (rk k)))) (fun φ' => some (-2, qm_u φ' 30 7 2)) (fun m φ1 i hh hi => by
      obtain ⟨φ2, e1, e3, e4⟩ := sx_left (x := -1) (b := b) H hP hh.1 (hK.fr hh.2) (fun j hj => by rw [ss_btall j hj, hb j hj]) (hR i hi).2.2
      refine ⟨φ2, ⟨e3, hh.2.trans e4⟩, ?_⟩
      conv => lhs; unfold se_toGuess_L19
      rw [(sx_gi H hh.1.1).1, sx_at H hR hh.1.1 hi]
      simp only [yb1]
      rw [if_neg (by rw [ya_le (by omega) (by omega)]; omega), e1]
      simp only [yb2]
      unfold ss_of
      rw [if_pos rfl]
      by_cases q : ss_left V pn Hb kp nK b (rk i) = 0
      · rw [if_pos q, if_neg (by simp [q]), ya_add1]
      · rw [if_neg q, if_pos (by simp [q])]) (fun m φ1 hh => by
      show se_toGuess_L19 F nR nN nT gg (m + 1) φ1 (Int32.ofNat gg) = _
      unfold se_toGuess_L19
      rw [(sx_gi H hh.1.1).1]
      simp only [yb1]
      rw [if_pos (by rw [ya_le (by omega) (by omega)]; omega)]) gg F 0 φ (by omega) (by omega) ⟨hI, sx_f0 φ⟩
  exact ⟨φ', a, c, e⟩
/-- marks may change too -/
def sx_g (φ φ' : qm_F) : Prop := ∀ a j, a ≠ 3 → ¬ (26 ≤ a ∧ a ≤ 29) → a ≠ 33 → φ' a j = φ a j
theorem sx_f.g {φ φ' : qm_F} (h : sx_f φ φ') : sx_g φ φ' := fun a j x y _ => h a j x y
theorem sx_g.trans {φ φ' φ'' : qm_F} (h : sx_g φ φ') (h' : sx_g φ' φ'') : sx_g φ φ'' := fun a j x y z => (h' a j x y z).trans (h a j x y z)
theorem sx_K.gr {φ' : qm_F} (h : sx_K nI pn kp nK φ) (f : sx_g φ φ') : sx_K nI pn kp nK φ' :=
  ⟨fun k hk => by rw [f 31 k (by omega) (by omega) (by omega)]; exact h.1 k hk, by rw [f 30 5 (by omega) (by omega) (by omega)]; exact h.2.1, fun j hj => by rw [f 32 j (by omega) (by omega) (by omega)]; exact h.2.2.1 j hj, h.2.2.2⟩
theorem sx_mark (H : ss_H F nR nN nT gg nI φ0 ψ0 V u) (hP : ss_P Hb φ0 ψ0) (hI : sx_I gg nI φ0 V u φ) (hK : sx_K nI pn kp nK φ) (hb : ∀ j, j < 40 → b j = true) : ∃ φ', se_markLeft F nR nN nT gg φ = some φ' ∧ sx_I gg nI φ0 V u φ' ∧ sx_g φ φ' ∧ ∀ g, g < gg → φ' 33 g = ss_left V pn Hb kp nK b g := by
  have hF := ss_F H
  have : ∀ (n m i : Nat) (φ1 : qm_F), n + i = gg → n + 1 ≤ m → sx_I gg nI φ0 V u φ1 → sx_g φ φ1 → (∀ g, g < i → φ1 33 g = ss_left V pn Hb kp nK b g) → ∃ φ', se_markLeft_L2 F nR nN nT gg m φ1 (Int32.ofNat i) = some φ' ∧ sx_I gg nI φ0 V u φ' ∧ sx_g φ φ' ∧ ∀ g, g < gg → φ' 33 g = ss_left V pn Hb kp nK b g := by
    intro n
    induction n with
    | zero =>
      intro m i φ1 h1 h2 hI1 hg1 hm
      obtain ⟨m, rfl⟩ : ∃ z, m = z + 1 := ⟨m - 1, by omega⟩
      refine ⟨φ1, ?_, hI1, hg1, fun g hg => hm g (by omega)⟩
      unfold se_markLeft_L2
      rw [show decide (gg < 2147483648) = true from decide_eq_true (by omega), if_pos (by rw [ya_le (by omega) (by omega)]; omega)]
      rfl
    | succ n ih =>
      intro m i φ1 h1 h2 hI1 hg1 hm
      obtain ⟨m, rfl⟩ : ∃ z, m = z + 1 := ⟨m - 1, by omega⟩
      obtain ⟨φ2, e1, e3, e4⟩ := sx_left (x := -1) (b := b) (g := i) H hP hI1 (hK.gr hg1) (fun j hj => by rw [ss_btall j hj, hb j hj]) (by omega)
      have ebz : qm_bz (ss_left V pn Hb kp nK b i) = true := by
        rcases ss_left01 (V := V) (pn := pn) (Hb := Hb) (kp := kp) (nK := nK) (b := b) i with z | z <;> rw [z] <;> decide
      have uo : ∀ a j, ¬ (a = 33 ∧ j = i) → (qm_u φ2 33 i (ss_left V pn Hb kp nK b i)) a j = φ2 a j := by
        intro a j hh
        unfold qm_u
        repeat' split
        all_goals first | rfl | omega
      obtain ⟨φ', e5, r1, r2, r3⟩ := ih m (i + 1) (qm_u φ2 33 i (ss_left V pn Hb kp nK b i)) (by omega) (by omega) ⟨⟨fun a j a1 a2 => by rw [uo a j (by omega)]; exact e3.1.1 a j a1 a2, by rw [uo 26 1 (by omega)]; exact e3.1.2⟩, by rw [uo 25 1 (by omega)]; exact e3.2.1, by rw [uo 25 3 (by omega)]; exact e3.2.2.1, fun g' i' a1 a2 => by rw [uo 3 _ (by omega)]; exact e3.2.2.2 g' i' a1 a2⟩ (hg1.trans (fun a j x y z => by rw [uo a j (by omega)]; exact e4 a j x y)) (fun g hg => by
        by_cases q : g = i
        · subst q; exact ya_u_same _ _ _ _
        · rw [uo 33 g (by omega), e4 33 g (by omega) (by omega)]
          exact hm g (by omega))
      refine ⟨φ', ?_, r1, r2, r3⟩
      rw [← e5]
      conv => lhs; unfold se_markLeft_L2
      rw [show decide (gg < 2147483648) = true from decide_eq_true (by omega), if_neg (by rw [ya_le (by omega) (by omega)]; omega), e1]
      simp only [yg1, yb2]
      rw [ya_in (by omega) (by omega), ebz, ya_nn (by omega), ya_add1]
      rfl
  exact this gg F 0 φ (by omega) (by omega) hI (fun _ _ _ _ _ => rfl) (fun g hg => by omega)
def ss_ref (V : Nat → Nat → Nat) (gg : Nat) (lf : Nat → Int32) (i : Nat) : Nat := sp_cnt (fun g => decide (V g i ≠ 0) && decide (lf g ≠ 0)) 0 gg
theorem sx_ref (H : ss_H F nR nN nT gg nI φ0 ψ0 V u) (hI : sx_I gg nI φ0 V u φ) {lf : Nat → Int32} (hm : ∀ g, g < gg → φ 33 g = lf g) {i : Nat} (hi : i < nI) : ∃ φ', se_leftRefutedBy F nR nN nT gg φ (Int32.ofNat i) = some (Int32.ofNat (ss_ref V gg lf i), φ') ∧ sx_I gg nI φ0 V u φ' ∧ sx_f φ φ' := by
  have hF := ss_F H
  obtain ⟨φ', ⟨a, c⟩, e⟩ := sg_cnt (L := fun m φ n g => se_leftRefutedBy_L4 F nR nN nT gg m φ (Int32.ofNat i) n g) (I := fun φ1 => sx_I gg nI φ0 V u φ1 ∧ sx_f φ φ1) (N := gg) (fun g => decide (V g i ≠ 0) && decide (lf g ≠ 0)) (fun m φ1 g n hh hg => by
      have e33 : φ1 33 g = lf g := by rw [hh.2 33 g (by omega) (by omega)]; exact hm g hg
      have step : se_leftRefutedBy_L4 F nR nN nT gg (m + 1) φ1 (Int32.ofNat i) (Int32.ofNat n) (Int32.ofNat g) = if lf g = 0 then se_leftRefutedBy_L4 F nR nN nT gg m φ1 (Int32.ofNat i) (Int32.ofNat n) (Int32.ofNat (g + 1)) else (qb2 (ve_verdictOf F nR nN nT gg φ1 (Int32.ofNat g) (Int32.ofNat i)) fun y1 φ2 => if y1 = 0 then se_leftRefutedBy_L4 F nR nN nT gg m φ2 (Int32.ofNat i) (Int32.ofNat n) (Int32.ofNat (g + 1)) else se_leftRefutedBy_L4 F nR nN nT gg m φ2 (Int32.ofNat i) (Int32.ofNat (n + 1)) (Int32.ofNat (g + 1))) := by
        conv => lhs; unfold se_leftRefutedBy_L4
        rw [show decide (gg < 2147483648) = true from decide_eq_true (by omega), if_neg (by rw [ya_le (by omega) (by omega)]; omega), ya_in (by omega) hg, ya_nn (by omega), e33, ya_add1, ya_add1]
        rfl
      by_cases q : lf g = 0
      · refine ⟨φ1, hh, ?_⟩
        show se_leftRefutedBy_L4 F nR nN nT gg (m + 1) φ1 (Int32.ofNat i) (Int32.ofNat n) (Int32.ofNat g) = _
        rw [step, if_pos q, if_neg (by simp [q])]
        rfl
      · obtain ⟨φ2, e1, e3, e4⟩ := sx_verdict H hh.1 hg hi
        refine ⟨φ2, ⟨e3, hh.2.trans e4⟩, ?_⟩
        show se_leftRefutedBy_L4 F nR nN nT gg (m + 1) φ1 (Int32.ofNat i) (Int32.ofNat n) (Int32.ofNat g) = _
        rw [step, if_neg q, e1]
        simp only [yb2]
        have z := ss_0 (ss_V5 H hg hi)
        by_cases w : V g i = 0
        · rw [if_pos (z.1.mpr w), if_neg (by simp [w])]
          rfl
        · rw [if_neg (fun y => w (z.1.mp y)), if_pos (by simp [w, q])]) (fun m φ1 n hh => by
      show se_leftRefutedBy_L4 F nR nN nT gg (m + 1) φ1 (Int32.ofNat i) (Int32.ofNat n) (Int32.ofNat gg) = _
      unfold se_leftRefutedBy_L4
      rw [show decide (gg < 2147483648) = true from decide_eq_true (by omega), if_pos (by rw [ya_le (by omega) (by omega)]; omega)]
      rfl) gg F 0 0 φ (by omega) (by omega) ⟨hI, sx_f0 φ⟩
  rw [Nat.zero_add] at e
  exact ⟨φ', e, a, c⟩
theorem sm_ref (H : ss_H F nR nN nT gg nI φ0 ψ0 V u) (hP : ss_P Hb φ0 ψ0) (hI : sm_I gg nI ψ0 V u ψ) (hK : sm_K nI pn kp nK b ψ) {i : Nat} (hi : i < nI) : ∃ ψ', mo_refutesOf F ψ (Int32.ofNat i) = some (Int32.ofNat (ss_ref V gg (ss_left V pn Hb kp nK b) i), ψ') ∧ sm_I gg nI ψ0 V u ψ' ∧ sm_f ψ ψ' := by
  have hF := ss_F H
  obtain ⟨φ', ⟨a, c⟩, e⟩ := sg_cnt (L := fun m φ n g => mo_refutesOf_L4 F m φ (Int32.ofNat i) n g) (I := fun φ1 => sm_I gg nI ψ0 V u φ1 ∧ sm_f ψ φ1) (N := gg) (fun g => decide (V g i ≠ 0) && decide (ss_left V pn Hb kp nK b g ≠ 0)) (fun m φ1 g n hh hg => by
      obtain ⟨φ2, e1, e3, e4⟩ := sm_verdict H hh.1 hg hi
      have z := ss_0 (ss_V5 H hg hi)
      have step : mo_refutesOf_L4 F (m + 1) φ1 (Int32.ofNat i) (Int32.ofNat n) (Int32.ofNat g) = if V g i = 0 then mo_refutesOf_L4 F m φ2 (Int32.ofNat i) (Int32.ofNat n) (Int32.ofNat (g + 1)) else (qb2 (mo_isLeft F φ2 (Int32.ofNat g)) fun y3 φ2 => if y3 = 0 then mo_refutesOf_L4 F m φ2 (Int32.ofNat i) (Int32.ofNat n) (Int32.ofNat (g + 1)) else mo_refutesOf_L4 F m φ2 (Int32.ofNat i) (Int32.ofNat (n + 1)) (Int32.ofNat (g + 1))) := by
        conv => lhs; unfold mo_refutesOf_L4
        rw [(sm_gi H hh.1.1).1]
        simp only [yb1]
        rw [if_neg (by rw [ya_le (by omega) (by omega)]; omega), e1, ya_add1, ya_add1, show Int32.ofNat n + 0 = Int32.ofNat n from ya_add n 0]
        simp only [yb2]
        by_cases w : V g i = 0
        · rw [if_pos (z.2.mpr w), if_pos w]
        · rw [if_neg (fun y => w (z.2.mp y)), if_neg w]
      by_cases w : V g i = 0
      · refine ⟨φ2, ⟨e3, hh.2.trans e4⟩, ?_⟩
        show mo_refutesOf_L4 F (m + 1) φ1 (Int32.ofNat i) (Int32.ofNat n) (Int32.ofNat g) = _
        rw [step, if_pos w, if_neg (by simp [w])]
        rfl
      · obtain ⟨φ3, d1, d3, d4⟩ := sm_left H hP e3 (hK.fr (hh.2.trans e4)) hg
        refine ⟨φ3, ⟨d3, (hh.2.trans e4).trans d4⟩, ?_⟩
        show mo_refutesOf_L4 F (m + 1) φ1 (Int32.ofNat i) (Int32.ofNat n) (Int32.ofNat g) = _
        rw [step, if_neg w, d1]
        simp only [yb2]
        by_cases q : ss_left V pn Hb kp nK b g = 0
        · rw [if_pos q, if_neg (by simp [q])]
          rfl
        · rw [if_neg q, if_pos (by simp [w, q])]) (fun m φ1 n hh => by
      show mo_refutesOf_L4 F (m + 1) φ1 (Int32.ofNat i) (Int32.ofNat n) (Int32.ofNat gg) = _
      unfold mo_refutesOf_L4
      rw [(sm_gi H hh.1.1).1]
      simp only [yb1]
      rw [if_pos (by rw [ya_le (by omega) (by omega)]; omega)]) gg F 0 0 ψ (by omega) (by omega) ⟨hI, sm_f0 ψ⟩
  rw [Nat.zero_add] at e
  exact ⟨φ', e, a, c⟩
end S3
