/-! SEMANTICS: questions about the sketch, runs, the state -/
/-- more that stays: numbers told, costs, runs -/
def sb_E (F nR nN nT gg nI : Nat) (φ0 ψ0 : qm_F) (Hb : List Nat) : Prop :=
  (∀ j, j < 7 → φ0 14 j = ψ0 2 j) ∧ (∀ k, k < Hb.length → φ0 17 k = ψ0 5 (3 + k)) ∧ (∃ v, v ≤ 4 ∧ φ0 14 3 = Int32.ofNat v) ∧
  (∀ ψ, sm_st ψ0 ψ → ∀ g, g < gg → mo_costOf F ψ (Int32.ofNat g) = some (φ0 23 g)) ∧
  (∀ u φ ψ, u ≤ 9 → sx_st φ0 φ → sm_st ψ0 ψ → ψ 0 43 = Int32.ofNat u → ∀ g i, g < gg → i < nI → ∃ (φ' ψ' : qm_F) (w k : Nat), ma_run F nR nN nT gg φ (Int32.ofNat g) (Int32.ofNat i) (Int32.ofNat u) = some φ' ∧ mo_ran F ψ (Int32.ofNat g) (Int32.ofNat i) = some (Int32.ofNat w, ψ') ∧ w ≤ 5 ∧ φ' 26 9 = Int32.ofNat w ∧ k ≤ 120 ∧ φ' 26 8 = Int32.ofNat k ∧ ψ' 0 37 = Int32.ofNat k ∧ (w ≤ 1 → ∀ j, j < 15 → φ' 27 j = ψ' 17 j) ∧ rs_fx φ φ' ∧ rn_fm ψ ψ')
section S5
variable {F nR nN nT gg nI u nK o s tn : Nat} {φ0 ψ0 φ ψ : qm_F} {Vf : Nat → Nat → Nat → Nat} {Hb : List Nat} {pn : Nat → Int32} {kp rk : Nat → Nat} {cur : Int32}
def sb_ask1 (F nR nN nT gg nI : Nat) (φ0 ψ0 : qm_F) (Vf : Nat → Nat → Nat → Nat) (Hb : List Nat) (rk : Nat → Nat) (u nK o s tn : Nat) (pn : Nat → Int32) (kp : Nat → Nat) (cur : Int32) (φ : qm_F) (x : Option Int32) (y : Option (Int32 × qm_F)) : Prop := ∃ v ψ', x = some v ∧ y = some (v, ψ') ∧ sb_D F nR nN nT gg nI φ0 ψ0 Vf Hb rk u nK o s tn pn kp cur φ ψ'
theorem so_has (E : sb_E F nR nN nT gg nI φ0 ψ0 Hb) (h : sb_D F nR nN nT gg nI φ0 ψ0 Vf Hb rk u nK o s tn pn kp cur φ ψ) (x1 : Int32) : sb_ask1 F nR nN nT gg nI φ0 ψ0 Vf Hb rk u nK o s tn pn kp cur φ (sf_has F nR nN nT gg φ x1) (mo_has F ψ x1) := by
  have hx := h.2.2.2.2.1
  have hm := h.2.2.2.2.2.1
  have h12 : ψ 0 12 = 1 := h.2.2.2.2.2.2.2.2.2.2.2.2.1
  have hw : mo_within F (qm_u ψ 0 0 0) (Int32.toInt64 x1) 0 6 = some (if x1 < 0 then 0 else if x1 ≤ 6 then 1 else 0) := by
    rw [show (0 : Int64) = Int32.toInt64 0 from by decide, show (6 : Int64) = Int32.toInt64 6 from by decide, ys_wi]
  have eq : ∀ j, j < 7 → φ 14 j = ψ 2 j := fun j hj => by rw [hx.1.1 14 j (by omega) (by omega), hm.1 2 j (by omega)]; exact E.1 j hj
  by_cases q1 : x1 < 0
  · refine ⟨-1, qm_u ψ 0 0 0, ?_, by unfold mo_has; simp [qb1, h12, hw, q1], h.th 0⟩
    have hne : ∀ k : Nat, k < 7 → ¬ x1 = Int32.ofNat k := fun k hk z => ya_lt0 (a := k) (by omega) (by rw [← z]; exact q1)
    unfold sf_has
    rw [if_neg (show ¬ x1 = 0 from hne 0 (by omega)), if_neg (show ¬ x1 = 1 from hne 1 (by omega)), if_neg (show ¬ x1 = 2 from hne 2 (by omega)), if_neg (show ¬ x1 = 3 from hne 3 (by omega)), if_neg (show ¬ x1 = 4 from hne 4 (by omega)), if_neg (show ¬ x1 = 5 from hne 5 (by omega)), if_neg (show ¬ x1 = 6 from hne 6 (by omega))]
  · obtain ⟨k, hk, rfl⟩ := ya_nat q1
    have c6 : (Int32.ofNat k ≤ 6) ↔ k ≤ 6 := ya_le (b := 6) hk (by omega)
    by_cases q6 : k ≤ 6
    · have hmm : mo_has F ψ (Int32.ofNat k) = some (ψ 2 k, qm_u ψ 0 0 0) := by
        unfold mo_has
        rw [if_neg (by rw [h12]; decide), hw, if_neg q1, if_pos (c6.mpr q6)]
        simp only [yb1]
        rw [if_neg (by decide), ya_in (by omega) (by omega), ya_nn (by omega)]
        rfl
      refine ⟨ψ 2 k, qm_u ψ 0 0 0, ?_, hmm, h.th 0⟩
      rw [← eq k (by omega)]
      match k, q6 with
      | 0, _ => rfl
      | 1, _ => rfl
      | 2, _ => rfl
      | 3, _ => rfl
      | 4, _ => rfl
      | 5, _ => rfl
      | 6, _ => rfl
    · have hmm : mo_has F ψ (Int32.ofNat k) = some (-1, qm_u ψ 0 0 0) := by
        unfold mo_has
        rw [if_neg (by rw [h12]; decide), hw, if_neg q1, if_neg (fun z => q6 (c6.mp z))]
        simp only [yb1]
        rw [if_pos (by first | trivial | decide)]
      refine ⟨-1, qm_u ψ 0 0 0, ?_, hmm, h.th 0⟩
      have hne : ∀ j : Nat, j < 7 → ¬ Int32.ofNat k = Int32.ofNat j := fun j hj z => by rw [ya_eq hk (by omega)] at z; omega
      unfold sf_has
      rw [if_neg (show ¬ Int32.ofNat k = 0 from hne 0 (by omega)), if_neg (show ¬ Int32.ofNat k = 1 from hne 1 (by omega)), if_neg (show ¬ Int32.ofNat k = 2 from hne 2 (by omega)), if_neg (show ¬ Int32.ofNat k = 3 from hne 3 (by omega)), if_neg (show ¬ Int32.ofNat k = 4 from hne 4 (by omega)), if_neg (show ¬ Int32.ofNat k = 5 from hne 5 (by omega)), if_neg (show ¬ Int32.ofNat k = 6 from hne 6 (by omega))]
/-- a number that may be a hole -/
theorem sg_hole (hP : ss_P Hb φ0 ψ0) (hx : sx_st φ0 φ) (hm : sm_st ψ0 ψ) (h12 : ψ 0 12 = 1) (x : Int32) : (∃ k, k < Hb.length ∧ x = Int32.ofNat k ∧ pr_hasHole F nR nN nT φ x = some 1 ∧ mo_isHole F ψ x = some 1) ∨ (pr_hasHole F nR nN nT φ x = some 0 ∧ mo_isHole F ψ x = some 0) := by
  have hP' := hP
  obtain ⟨p1, p2, p3, p4, p5⟩ := hP'
  have em : mo_isHole F ψ x = some (if x < 0 then 0 else if x ≤ Int32.ofNat Hb.length - 1 then 1 else 0) := by
    unfold mo_isHole
    rw [if_neg (by rw [h12]; decide), hm 2 2 (by omega), p4, show (0 : Int64) = Int32.toInt64 0 from by decide, ys_wi]
    simp only [yb1]
    repeat' split
    all_goals first | rfl | contradiction
  rw [em]
  by_cases q : x < 0
  · refine Or.inr ⟨?_, by rw [if_pos q]⟩
    unfold pr_hasHole
    rw [if_pos q]
  · obtain ⟨k, hk, rfl⟩ := ya_nat q
    rw [if_neg q]
    by_cases z : k < Hb.length
    · refine Or.inl ⟨k, z, rfl, sx_hole1 hP hx z, ?_⟩
      rw [ya_sub1 (by omega), yi_le (by omega) (by omega), if_pos (by omega)]
    · refine Or.inr ⟨?_, ?_⟩
      · unfold pr_hasHole
        rw [hx.1 14 2 (by omega) (by omega), p3, if_neg q, if_pos (by rw [ya_le (by omega) (by omega)]; omega)]
      · by_cases w : Hb.length = 0
        · rw [w, if_neg]
          intro y
          have : Int32.ofNat k < 0 := by
            rw [Int32.le_iff_toInt_le] at y
            rw [Int32.lt_iff_toInt_lt]
            have e1 : (Int32.ofNat 0 - 1).toInt = -1 := by decide
            have e0 : (0 : Int32).toInt = 0 := rfl
            omega
          exact q this
        · rw [ya_sub1 (by omega), yi_le (by omega) (by omega), if_neg (by omega)]
theorem so_hole (E : sb_E F nR nN nT gg nI φ0 ψ0 Hb) (h : sb_D F nR nN nT gg nI φ0 ψ0 Vf Hb rk u nK o s tn pn kp cur φ ψ) (x1 x2 : Int32) : sb_ask1 F nR nN nT gg nI φ0 ψ0 Vf Hb rk u nK o s tn pn kp cur φ (sf_hole F nR nN nT gg φ x1 x2) (mo_hole F ψ x1 x2) := by
  have hP := h.2.1
  have hP' := hP
  obtain ⟨p1, p2, p3, p4, p5⟩ := hP'
  have hx := h.2.2.2.2.1
  have hm := h.2.2.2.2.2.1
  have hKx := h.2.2.2.2.2.2.1
  have hKm := h.2.2.2.2.2.2.2.1
  have h12 : (qm_u ψ 0 0 0) 0 12 = 1 := h.2.2.2.2.2.2.2.2.2.2.2.2.1
  unfold sf_hole mo_hole
  rcases sg_hole (F := F) (nR := nR) (nN := nN) (nT := nT) hP hx.1 (hm.t 0).1 h12 x1 with ⟨k, hk, rfl, e1, e2⟩ | ⟨e1, e2⟩
  · have e16 : φ 16 k = ψ 4 (3 + k) := by
      have := p5 k Hb[k] (List.getElem?_eq_getElem hk)
      rw [hx.1.1 16 k (by omega) (by omega), hm.1 4 _ (by omega), this.1, this.2]
    have e17 : φ 17 k = ψ 5 (3 + k) := by rw [hx.1.1 17 k (by omega) (by omega), hm.1 5 _ (by omega)]; exact E.2.1 k hk
    have e31 : φ 31 k = ψ 15 k := by rw [hKx.1 k (by omega), hKm.1 k (by omega)]
    have ep : se_pinOf F nR nN nT gg φ (Int32.ofNat k) = some (φ 31 k) := by
      unfold se_pinOf
      rw [if_neg (ya_lt0 (by omega)), if_neg (by rw [show (5 : Int32) = Int32.ofNat 5 from rfl, ya_le (by omega) (by omega)]; omega), ya_in (by omega) (by omega), ya_nn (by omega)]
      rfl
    rw [e1, e2, ep]
    simp only [yb1]
    rw [show (3 : Int32) + Int32.ofNat k = Int32.ofNat (3 + k) from ya_add 3 k, ya_in (by omega) (by omega), ya_in (by omega) (by omega), ya_nn (by omega), ya_nn (by omega), e16, e17, e31]
    simp only [yg1]
    by_cases q0 : x2 = 0
    · subst q0
      exact ⟨ψ 4 (3 + k), qm_u ψ 0 0 0, rfl, rfl, h.th 0⟩
    · by_cases q1 : x2 = 1
      · subst q1
        exact ⟨ψ 5 (3 + k), qm_u ψ 0 0 0, rfl, rfl, h.th 0⟩
      · by_cases q2 : x2 = 2
        · subst q2
          exact ⟨ψ 15 k, qm_u ψ 0 0 0, rfl, rfl, h.th 0⟩
        · refine ⟨-1, qm_u ψ 0 0 0, ?_, ?_, h.th 0⟩
          · rw [if_pos (by decide), if_neg q0, if_neg q1, if_neg q2]
          · rw [if_pos (by decide), if_pos q0, if_pos q1, if_pos q2]
  · rw [e1, e2]
    exact ⟨-1, qm_u ψ 0 0 0, rfl, rfl, h.th 0⟩
theorem so_value (h : sb_D F nR nN nT gg nI φ0 ψ0 Vf Hb rk u nK o s tn pn kp cur φ ψ) (x1 x2 : Int32) : sb_ask1 F nR nN nT gg nI φ0 ψ0 Vf Hb rk u nK o s tn pn kp cur φ (sf_value F nR nN nT gg φ x1 x2) (mo_value F ψ x1 x2) := by
  have H := h.1 u h.2.2.2.1
  have hF := ss_F H
  have hP := h.2.1
  have hx := h.2.2.2.2.1
  have hm := h.2.2.2.2.2.1.t 0
  have h12 : (qm_u ψ 0 0 0) 0 12 = 1 := h.2.2.2.2.2.2.2.2.2.2.2.2.1
  unfold sf_value mo_value
  rcases sg_guess H hx.1 hm.1 h12 x1 with ⟨g, hg, rfl, e1, e2⟩ | ⟨e1, e2⟩
  · rcases sg_hole (F := F) (nR := nR) (nN := nN) (nT := nT) hP hx.1 hm.1 h12 x2 with ⟨k, hk, rfl, e3, e4⟩ | ⟨e3, e4⟩
    · rw [e1, e2, e3, e4, sx_value (by omega) hP hx.1 (by omega) hk, sm_hole (by omega) hP hm.1 (by omega) hk]
      exact ⟨rp_v Hb g k, qm_u ψ 0 0 0, rfl, rfl, h.th 0⟩
    · rw [e1, e2, e3, e4]
      exact ⟨-1, qm_u ψ 0 0 0, rfl, rfl, h.th 0⟩
  · rw [e1, e2]
    exact ⟨-1, qm_u ψ 0 0 0, rfl, rfl, h.th 0⟩
theorem so_cost (E : sb_E F nR nN nT gg nI φ0 ψ0 Hb) (h : sb_D F nR nN nT gg nI φ0 ψ0 Vf Hb rk u nK o s tn pn kp cur φ ψ) (x1 : Int32) : sb_ask1 F nR nN nT gg nI φ0 ψ0 Vf Hb rk u nK o s tn pn kp cur φ (sf_cost F nR nN nT gg φ x1) (mo_cost F ψ x1) := by
  have H := h.1 u h.2.2.2.1
  have hF := ss_F H
  have hx := h.2.2.2.2.1
  have hm := h.2.2.2.2.2.1.t 0
  have h12 : (qm_u ψ 0 0 0) 0 12 = 1 := h.2.2.2.2.2.2.2.2.2.2.2.2.1
  unfold sf_cost mo_cost
  rcases sg_guess H hx.1 hm.1 h12 x1 with ⟨g, hg, rfl, e1, e2⟩ | ⟨e1, e2⟩
  · have ec : pr_costOf F nR nN nT gg φ (Int32.ofNat g) = some (φ0 23 g) := by
      unfold pr_costOf
      rw [if_neg (ya_lt0 (by omega)), show decide (gg < 2147483648) = true from decide_eq_true (by omega), if_neg (by rw [ya_le (by omega) (by omega)]; omega), ya_in (by omega) hg, ya_nn (by omega), hx.1.1 23 g (by omega) (by omega)]
      rfl
    rw [e1, e2, ec, E.2.2.2.1 _ hm.1 g hg]
    exact ⟨φ0 23 g, qm_u ψ 0 0 0, rfl, rfl, h.th 0⟩
  · rw [e1, e2]
    exact ⟨-1, qm_u ψ 0 0 0, rfl, rfl, h.th 0⟩
/-- a run on both sides keeps the state -/
theorem sb_run (E : sb_E F nR nN nT gg nI φ0 ψ0 Hb) (h : sb_D F nR nN nT gg nI φ0 ψ0 Vf Hb rk u nK o s tn pn kp cur φ ψ) {g i : Nat} (hg : g < gg) (hi : i < nI) : ∃ (φ' ψ' : qm_F) (w k : Nat), ve_ran F nR nN nT gg φ (Int32.ofNat g) (Int32.ofNat i) = some φ' ∧ mo_ran F (qm_u ψ 0 0 0) (Int32.ofNat g) (Int32.ofNat i) = some (Int32.ofNat w, ψ') ∧ w ≤ 5 ∧ φ' 26 9 = Int32.ofNat w ∧ φ' 26 8 = Int32.ofNat k ∧ ψ' 0 37 = Int32.ofNat k ∧ (w ≤ 1 → ∀ j, j < 15 → φ' 27 j = ψ' 17 j) ∧ sb_D F nR nN nT gg nI φ0 ψ0 Vf Hb rk u nK o s tn pn kp cur φ' ψ' := by
  have hx := h.2.2.2.2.1
  have hm := h.2.2.2.2.2.1.t 0
  obtain ⟨φ', ψ', w, k, r1, r2, r3, r4, r5, r6, r7, r8, r9, r10⟩ := E.2.2.2.2 u φ (qm_u ψ 0 0 0) h.2.2.2.1 hx.1 hm.1 hm.2.1 g i hg hi
  refine ⟨φ', ψ', w, k, ?_, r2, r3, r4, r6, r7, r8, h.q ⟨⟨fun a j a1 a2 => ?_, ?_⟩, ?_, ?_, fun g' i' a1 a2 => ?_⟩ (fun a j x y z => r9 a j (by omega) (by omega)) ⟨fun a j ha => ?_, ?_, ?_⟩ ((sm_h0 ψ 0).trans (fun a j x y => r10 a j (by omega) (by omega)))⟩
  · unfold ve_ran
    rw [hx.2.2.1, r1]
    rfl
  · rw [r9 a j (by omega) (by omega)]; exact hx.1.1 a j a1 a2
  · rw [r9 26 1 (by omega) (by omega)]; exact hx.1.2
  · rw [r9 25 1 (by omega) (by omega)]; exact hx.2.1
  · rw [r9 25 3 (by omega) (by omega)]; exact hx.2.2.1
  · rw [r9 3 _ (by omega) (by omega)]; exact hx.2.2.2 g' i' a1 a2
  · rw [r10 a j (by omega) (by omega)]; exact hm.1 a j ha
  · rw [r10 0 43 (by omega) (by omega)]; exact hm.2.1
  · rw [r10 0 40 (by omega) (by omega)]
    rcases hm.2.2 with z | ⟨z, ht⟩
    · exact Or.inl z
    · exact Or.inr ⟨z, fun g i a b => by rw [r10 19 _ (by omega) (by omega)]; exact ht g i a b⟩
theorem so_steps (E : sb_E F nR nN nT gg nI φ0 ψ0 Hb) (h : sb_D F nR nN nT gg nI φ0 ψ0 Vf Hb rk u nK o s tn pn kp cur φ ψ) (x1 x2 : Int32) : sb_ask F nR nN nT gg nI φ0 ψ0 Vf Hb rk u nK o s tn pn kp cur (sf_steps F nR nN nT gg φ x1 x2) (mo_steps2 F ψ x1 x2) := by
  have H := h.1 u h.2.2.2.1
  have hx := h.2.2.2.2.1
  have hm := h.2.2.2.2.2.1.t 0
  have h12 : (qm_u ψ 0 0 0) 0 12 = 1 := h.2.2.2.2.2.2.2.2.2.2.2.2.1
  rcases sg_guess H hx.1 hm.1 h12 x1 with ⟨g, hg, rfl, e1, e2⟩ | ⟨e1, e2⟩
  · rcases sg_input H hx.1 hm.1 h12 x2 with ⟨i, hi, rfl, e3, e4⟩ | ⟨e3, e4⟩
    · obtain ⟨φ', ψ', w, k, r1, r2, r3, r4, r5, r6, r7, r8⟩ := sb_run E h hg hi
      refine ⟨Int32.ofNat k, φ', ψ', ?_, ?_, r8⟩
      · unfold sf_steps pr_hasRun ma_stepsBegun
        simp [qb1, e1, e3, r1, r5]
      · unfold mo_steps2
        rw [e2, e4]
        simp only [yb1]
        rw [if_neg (by decide), if_pos (by decide), r2]
        simp only [yb2]
        rw [if_neg (ya_lt0 (by omega)), r6]
    · exact ⟨-1, φ, qm_u ψ 0 0 0, by unfold sf_steps pr_hasRun; simp [qb1, e1, e3], by unfold mo_steps2; simp [qb1, e2, e4], h.th 0⟩
  · exact ⟨-1, φ, qm_u ψ 0 0 0, by unfold sf_steps pr_hasRun; simp [qb1, e1], by unfold mo_steps2; simp [qb1, e2], h.th 0⟩
theorem so_ends (E : sb_E F nR nN nT gg nI φ0 ψ0 Hb) (h : sb_D F nR nN nT gg nI φ0 ψ0 Vf Hb rk u nK o s tn pn kp cur φ ψ) (x1 x2 x3 : Int32) : sb_ask F nR nN nT gg nI φ0 ψ0 Vf Hb rk u nK o s tn pn kp cur (sf_ends F nR nN nT gg φ x1 x2 x3) (mo_ends F ψ x1 x2 x3) := by
  have H := h.1 u h.2.2.2.1
  have hx := h.2.2.2.2.1
  have hm := h.2.2.2.2.2.1.t 0
  have h12 : (qm_u ψ 0 0 0) 0 12 = 1 := h.2.2.2.2.2.2.2.2.2.2.2.2.1
  obtain ⟨v, hv, ev⟩ := E.2.2.1
  have ex : φ 14 3 = Int32.ofNat v := by rw [hx.1.1 14 3 (by omega) (by omega)]; exact ev
  have ey : ψ 2 3 = Int32.ofNat v := by rw [h.2.2.2.2.2.1.1 2 3 (by omega), ← E.1 3 (by omega)]; exact ev
  have hw : mo_within F (qm_u ψ 0 0 0) (Int32.toInt64 x3) 0 (Int32.toInt64 (ψ 2 3 - 1)) = some (if x3 < 0 then 0 else if x3 ≤ Int32.ofNat v - 1 then 1 else 0) := by
    rw [ey, show (0 : Int64) = Int32.toInt64 0 from by decide, ys_wi]
  rcases sg_guess H hx.1 hm.1 h12 x1 with ⟨g, hg, rfl, e1, e2⟩ | ⟨e1, e2⟩
  · rcases sg_input H hx.1 hm.1 h12 x2 with ⟨i, hi, rfl, e3, e4⟩ | ⟨e3, e4⟩
    · by_cases q1 : x3 < 0
      · exact ⟨-1, φ, qm_u ψ 0 0 0, by unfold sf_ends pr_hasRun; simp [qb1, e1, e3, q1], by unfold mo_ends; simp [qb1, e2, e4, hw, q1], h.th 0⟩
      · obtain ⟨k3, hk3, rfl⟩ := ya_nat q1
        by_cases q3 : k3 < v
        · obtain ⟨φ', ψ', w, k, r1, r2, r3, r4, r5, r6, r7, r8⟩ := sb_run E h hg hi
          have hc : (Int32.ofNat k3 ≤ Int32.ofNat v - 1) := by rw [ya_sub1 (by omega), ya_le (by omega) (by omega)]; omega
          have c1 : (Int32.ofNat w ≤ 1) ↔ w ≤ 1 := ya_le (b := 1) (by omega) (by omega)
          have hsx : sf_ends F nR nN nT gg φ (Int32.ofNat g) (Int32.ofNat i) (Int32.ofNat k3) = if w ≤ 1 then some (φ' 27 (8 + k3), φ') else some (-2, φ') := by
            unfold sf_ends pr_hasRun ma_outcome ma_varAt
            rw [e1, e3]
            simp only [yb1]
            rw [if_neg (by decide), if_neg (by decide)]
            simp only [yb1]
            rw [if_pos (by decide), if_neg q1, ex, if_pos (by rw [ya_lt (by omega) (by omega)]; exact q3), r1]
            simp only [yb1]
            rw [r4]
            by_cases q : w ≤ 1
            · rw [if_pos (c1.mpr q), if_pos q, if_neg q1, if_neg (by rw [show (4 : Int32) = Int32.ofNat 4 from rfl, ya_le (by omega) (by omega)]; omega), show (8 : Int32) + Int32.ofNat k3 = Int32.ofNat (8 + k3) from ya_add 8 k3, ya_in (by omega) (by omega), ya_nn (by omega)]; rfl
            · rw [if_neg (fun z => q (c1.mp z)), if_neg q]
          have hsm : mo_ends F ψ (Int32.ofNat g) (Int32.ofNat i) (Int32.ofNat k3) = if w ≤ 1 then some (ψ' 17 (8 + k3), ψ') else some (-2, ψ') := by
            unfold mo_ends
            rw [e2, e4]
            simp only [yb1]
            rw [if_neg (by decide), if_neg (by decide), hw, if_neg q1, if_pos hc]
            simp only [yb1]
            rw [if_pos (by decide), r2]
            simp only [yb2]
            rw [show (8 : Int32) + Int32.ofNat k3 = Int32.ofNat (8 + k3) from ya_add 8 k3, ya_in (by omega) (by omega), ya_nn (by omega)]
            by_cases q : w ≤ 1
            · rw [if_pos (c1.mpr q), if_pos q]; rfl
            · rw [if_neg (fun z => q (c1.mp z)), if_neg q]
          by_cases q : w ≤ 1
          · rw [if_pos q] at hsx hsm
            rw [r7 q (8 + k3) (by omega)] at hsx
            exact ⟨_, φ', ψ', hsx, hsm, r8⟩
          · rw [if_neg q] at hsx hsm
            exact ⟨_, φ', ψ', hsx, hsm, r8⟩
        · refine ⟨-1, φ, qm_u ψ 0 0 0, ?_, ?_, h.th 0⟩
          · unfold sf_ends pr_hasRun
            rw [e1, e3]
            simp only [yb1]
            rw [if_neg (by decide), if_neg (by decide)]
            simp only [yb1]
            rw [if_pos (by decide), if_neg q1, ex, if_neg (by rw [ya_lt (by omega) (by omega)]; exact q3)]
          · have hc : ¬ (Int32.ofNat k3 ≤ Int32.ofNat v - 1) := by
              by_cases w : v = 0
              · rw [w]
                intro y
                rw [Int32.le_iff_toInt_le, ya_int (by omega)] at y
                have e1 : (Int32.ofNat 0 - 1).toInt = -1 := by decide
                omega
              · rw [ya_sub1 (by omega), ya_le (by omega) (by omega)]; omega
            unfold mo_ends
            rw [e2, e4]
            simp only [yb1]
            rw [if_neg (by decide), if_neg (by decide), hw, if_neg q1, if_neg hc]
            rfl
    · exact ⟨-1, φ, qm_u ψ 0 0 0, by unfold sf_ends pr_hasRun; simp [qb1, e1, e3], by unfold mo_ends; simp [qb1, e2, e4], h.th 0⟩
  · exact ⟨-1, φ, qm_u ψ 0 0 0, by unfold sf_ends pr_hasRun; simp [qb1, e1], by unfold mo_ends; simp [qb1, e2], h.th 0⟩
theorem so_state (h : sb_D F nR nN nT gg nI φ0 ψ0 Vf Hb rk u nK o s tn pn kp cur φ ψ) (x1 : Int32) : sb_ask1 F nR nN nT gg nI φ0 ψ0 Vf Hb rk u nK o s tn pn kp cur φ (sf_state F nR nN nT gg φ x1) (mo_state F ψ x1) := by
  have h' := h
  obtain ⟨a1, a2, a3, a4, a5, a6, a7, a8, ⟨b1, b2, b3⟩, ⟨c1, c2, c3⟩, ⟨d1, d2⟩, a12, ⟨e1, ⟨t1, t2, t3⟩, e3⟩⟩ := h'
  obtain ⟨k1, k2, k3, k4⟩ := a7
  obtain ⟨m1, m2, m3, m4, m5⟩ := a8
  unfold sf_state mo_state ta_size ve_unroll
  rw [b1, b2, c1, c2, d1, d2, k2, m2, t1, t2, a5.2.2.1, a6.2.1, e1]
  by_cases q5 : x1 = 5
  · subst q5
    exact ⟨Int32.ofNat tn, qm_u ψ 0 0 0, rfl, rfl, h.th 0⟩
  · rw [if_pos q5, if_pos q5]
    by_cases q0 : x1 = 0
    · subst q0; exact ⟨_, qm_u ψ 0 0 0, rfl, rfl, h.th 0⟩
    by_cases q1 : x1 = 1
    · subst q1; exact ⟨_, qm_u ψ 0 0 0, rfl, rfl, h.th 0⟩
    by_cases q2 : x1 = 2
    · subst q2; exact ⟨_, qm_u ψ 0 0 0, rfl, rfl, h.th 0⟩
    by_cases q3 : x1 = 3
    · subst q3; exact ⟨_, qm_u ψ 0 0 0, rfl, rfl, h.th 0⟩
    by_cases q4 : x1 = 4
    · subst q4; exact ⟨_, qm_u ψ 0 0 0, rfl, rfl, h.th 0⟩
    have hw : mo_within F (qm_u ψ 0 0 0) (Int32.toInt64 x1) 10 (Int32.toInt64 (9 + Int32.ofNat nK)) = some (if x1 < 10 then 0 else if x1 ≤ Int32.ofNat (9 + nK) then 1 else 0) := by
      rw [show (9 : Int32) + Int32.ofNat nK = Int32.ofNat (9 + nK) from ya_add 9 nK, show (10 : Int64) = Int32.toInt64 10 from by decide, ys_wi]
    rw [hw]
    simp only [yb1]
    by_cases q10 : x1 < 10
    · rw [if_pos q10, if_neg q0, if_neg q1, if_neg q2, if_neg q3, if_neg q4, if_pos (by decide), if_neg q0, if_neg q1, if_neg q2, if_neg q3, if_neg q4, if_pos q10]
      exact ⟨-1, qm_u ψ 0 0 0, rfl, rfl, h.th 0⟩
    · rw [if_neg q10, if_pos (by decide), if_neg q0, if_neg q1, if_neg q2, if_neg q3, if_neg q4, if_neg q10]
      have qn : ¬ x1 < 0 := by
        intro z
        apply q10
        rw [Int32.lt_iff_toInt_lt] at z ⊢
        have z0 : (0 : Int32).toInt = 0 := rfl
        have z10 : (10 : Int32).toInt = 10 := rfl
        omega
      obtain ⟨k, hk, rfl⟩ := ya_nat qn
      have hk10 : 10 ≤ k := by
        rw [show (10 : Int32) = Int32.ofNat 10 from rfl, ya_lt hk (by omega)] at q10
        omega
      have es : Int32.ofNat k - 10 = Int32.ofNat (k - 10) := ya_sub (a := k) (b := 10) hk10
      unfold se_keptAt se_hasKept
      rw [es, k2, if_neg (ya_lt0 (by omega)), yi_le (by omega) (by omega)]
      have hkk := ya_le (a := k) (b := 9 + nK) hk (by omega)
      by_cases qk : k - 10 < nK
      · obtain ⟨g1, g2⟩ := k3 (k - 10) qk
        obtain ⟨g3, g4⟩ := m3 (k - 10) qk
        have hm1 : (if Int32.ofNat k ≤ Int32.ofNat (9 + nK) then (1 : Int32) else 0) = 1 := if_pos (hkk.mpr (by omega))
        rw [if_neg (by omega), if_neg (by rw [show (40 : Int32) = Int32.ofNat 40 from rfl, ya_le (by omega) (by omega)]; omega), hm1, ya_in (by omega) (by omega), ya_nn (by omega), g1, g3]
        exact ⟨Int32.ofNat (kp (k - 10)), qm_u ψ 0 0 0, rfl, rfl, h.th 0⟩
      · have hm1 : (if Int32.ofNat k ≤ Int32.ofNat (9 + nK) then (1 : Int32) else 0) = 0 := if_neg (fun z => qk (by have := hkk.mp z; omega))
        rw [if_pos (by omega), hm1]
        exact ⟨-1, qm_u ψ 0 0 0, rfl, rfl, h.th 0⟩
end S5
