/-! SEMANTICS: the tape changes, the search stays -/
section S25
variable {F nR nN nT gg nI u nK o s tn n' : Nat} {φ0 ψ0 φ ψ φ' ψ' : qm_F} {Vf : Nat → Nat → Nat → Nat} {Hb : List Nat} {pn : Nat → Int32} {kp rk : Nat → Nat} {cur : Int32}
theorem sb_D.tp (h : sb_D F nR nN nT gg nI φ0 ψ0 Vf Hb rk u nK o s tn pn kp cur φ ψ) (gx : ∀ a j, 3 ≤ a → φ' a j = φ a j) (g1 : sm_st ψ ψ') (g2 : ∀ a j, a = 15 ∨ a = 19 ∨ a = 20 ∨ a = 21 → ψ' a j = ψ a j) (g3 : ∀ j, j = 12 ∨ 40 ≤ j ∧ j ≤ 45 → ψ' 0 j = ψ 0 j) (T : qt_T φ' ψ' n') (hn : n' ≤ 800) : sb_D F nR nN nT gg nI φ0 ψ0 Vf Hb rk u nK o s n' pn kp cur φ' ψ' := by
  obtain ⟨a1, a2, a3, a4, a5, a6, a7, a8, ⟨b1, b2, b3⟩, ⟨c1, c2, c3⟩, ⟨d1, d2⟩, a12, ⟨e1, -, -⟩⟩ := h
  refine ⟨a1, a2, a3, a4, ⟨⟨fun a j x y => by rw [gx a j (by omega)]; exact a5.1.1 a j x y, by rw [gx _ _ (by omega)]; exact a5.1.2⟩, by rw [gx _ _ (by omega)]; exact a5.2.1, by rw [gx _ _ (by omega)]; exact a5.2.2.1, fun g i x y => by rw [gx _ _ (by omega)]; exact a5.2.2.2 g i x y⟩, ⟨fun a j z => by rw [g1 a j z]; exact a6.1 a j z, by rw [g3 _ (by omega)]; exact a6.2.1, ?_⟩, ⟨fun k hk => by rw [gx _ _ (by omega)]; exact a7.1 k hk, by rw [gx _ _ (by omega)]; exact a7.2.1, fun j hj => by rw [gx _ _ (by omega)]; exact a7.2.2.1 j hj, a7.2.2.2⟩, ⟨fun k hk => by rw [g2 _ _ (by omega)]; exact a8.1 k hk, by rw [g3 _ (by omega)]; exact a8.2.1, fun j hj => by rw [g2 _ _ (by omega)]; exact a8.2.2.1 j hj, a8.2.2.2.1, fun j hj => by rw [g2 _ _ (by omega)]; exact a8.2.2.2.2 j hj⟩, ⟨by rw [gx _ _ (by omega)]; exact b1, by rw [g3 _ (by omega)]; exact b2, b3⟩, ⟨by rw [gx _ _ (by omega)]; exact c1, by rw [g3 _ (by omega)]; exact c2, c3⟩, ⟨by rw [gx _ _ (by omega)]; exact d1, by rw [g3 _ (by omega)]; exact d2⟩, a12, ⟨by rw [g3 _ (by omega)]; exact e1, T, hn⟩⟩
  rw [g3 40 (by omega)]
  rcases a6.2.2 with z | ⟨z, z'⟩
  · exact Or.inl z
  · exact Or.inr ⟨z, fun g i x y => by rw [g2 19 _ (by omega)]; exact z' g i x y⟩
/-- after feed -/
theorem sb_D.fd (h : sb_D F nR nN nT gg nI φ0 ψ0 Vf Hb rk u nK o s tn pn kp cur φ ψ) (T : qt_T φ' ψ' n') (hn : n' ≤ 800) (f : (∀ a j, a ≠ 1 → a ≠ 2 → φ' a j = φ a j) ∧ (∀ j, j ≠ 1 → φ' 1 j = φ 1 j) ∧ (∀ a j, a ≠ 0 → a ≠ 1 → ψ' a j = (qm_u ψ 0 0 0) a j) ∧ (∀ j, j ≠ 2 → ψ' 0 j = (qm_u ψ 0 0 0) 0 j)) : sb_D F nR nN nT gg nI φ0 ψ0 Vf Hb rk u nK o s n' pn kp cur φ' ψ' := by
  have z : ∀ a j, a ≠ 0 → (qm_u ψ 0 0 0) a j = ψ a j := fun a j x => ya_u_a _ _ _ _ x
  refine h.tp (fun a j x => f.1 a j (by omega) (by omega)) (fun a j x => ?_) (fun a j x => ?_) (fun j x => ?_) T hn
  · rw [f.2.2.1 a j (by omega) (by omega), z a j (by omega)]
  · rw [f.2.2.1 a j (by omega) (by omega), z a j (by omega)]
  · rw [f.2.2.2 j (by omega), ya_u_i _ _ _ _ (by omega)]
theorem sA_D.fd (h : sA_D tn φ ψ) (T : qt_T φ' ψ' n') (hn : n' ≤ 800) (f : (∀ a j, a ≠ 1 → a ≠ 2 → φ' a j = φ a j) ∧ (∀ j, j ≠ 1 → φ' 1 j = φ 1 j) ∧ (∀ a j, a ≠ 0 → a ≠ 1 → ψ' a j = (qm_u ψ 0 0 0) a j) ∧ (∀ j, j ≠ 2 → ψ' 0 j = (qm_u ψ 0 0 0) 0 j)) : sA_D n' φ' ψ' := by
  refine ⟨?_, T, hn, fun j hj => ?_⟩
  · rw [f.2.2.2 12 (by omega), ya_u_i _ _ _ _ (by omega)]; exact h.1
  · rw [f.2.2.1 21 j (by omega) (by omega), ya_u_a _ _ _ _ (by omega)]; exact h.2.2.2 j hj
/-- after a sketch that is none -/
theorem sb_D.ft {n : Nat} {φ3 ψ3 : qm_F} (h : sb_D F nR nN nT gg nI φ0 ψ0 Vf Hb rk u nK o s tn pn kp cur φ ψ) (hb : sk_b n ψ ψ3) (hx : ∀ a j, a < 4 → φ3 a j = (qm_u φ 1 1 0) a j) (hx2 : ∀ a j, 4 ≤ a → φ3 a j = φ a j) : sb_D F nR nN nT gg nI φ0 ψ0 Vf Hb rk u nK o s 0 pn kp cur φ3 (qm_u ψ3 0 13 0) := by
  obtain ⟨b1, b2, b3, b4⟩ := hb
  refine h.tp (fun a j x => ?_) (fun a j x => ?_) (fun a j x => ?_) (fun j x => ?_) ⟨?_, ?_, fun j hj => by omega⟩ (by omega)
  · by_cases z : a < 4
    · rw [hx a j z, ya_u_a _ _ _ _ (by omega)]
    · exact hx2 a j (by omega)
  · rw [ya_u_a _ _ _ _ (by omega)]; exact b4 a j (by omega) (by omega) (by omega) (by omega) (by omega) (by omega)
  · rw [ya_u_a _ _ _ _ (by omega)]; exact b4 a j (by omega) (by omega) (by omega) (by omega) (by omega) (by omega)
  · rw [ya_u_i _ _ _ _ (by omega)]; exact b4 0 j (by omega) (by omega) (by omega) (by omega) (by omega) (by omega)
  · rw [hx 1 1 (by omega), ya_u_same]; rfl
  · rw [ya_u_i _ _ _ _ (by omega)]; exact b1
theorem sA_D.ft {n : Nat} {φ3 ψ3 : qm_F} (h : sA_D tn φ ψ) (hb : sk_b n ψ ψ3) (hx : ∀ a j, a < 4 → φ3 a j = (qm_u φ 1 1 0) a j) : sA_D 0 φ3 (qm_u ψ3 0 13 0) := by
  obtain ⟨b1, b2, b3, b4⟩ := hb
  refine ⟨?_, ⟨?_, ?_, fun j hj => by omega⟩, by omega, fun j hj => ?_⟩
  · rw [ya_u_i _ _ _ _ (by omega)]
    rw [b4 0 12 (by omega) (by omega) (by omega) (by omega) (by omega) (by omega)]; exact h.1
  · rw [hx 1 1 (by omega), ya_u_same]; rfl
  · rw [ya_u_i _ _ _ _ (by omega)]; exact b1
  · rw [ya_u_a _ _ _ _ (by omega), b4 21 j (by omega) (by omega) (by omega) (by omega) (by omega) (by omega)]; exact h.2.2.2 j hj
/-- ranked -/
theorem so_ranked (h : sb_D F nR nN nT gg nI φ0 ψ0 Vf Hb rk u nK o s tn pn kp cur φ ψ) (x : Int32) :
    (∃ v ψ', pr_hasGuess F nR nN nT φ x = some 1 ∧ pr_guessAt F nR nN nT gg φ x = some v ∧ mo_ranked F ψ x = some (v, ψ') ∧ ψ' 0 0 = 0 ∧ sb_D F nR nN nT gg nI φ0 ψ0 Vf Hb rk u nK o s tn pn kp cur φ ψ') ∨
    (∃ ψ', pr_hasGuess F nR nN nT φ x = some 0 ∧ mo_ranked F ψ x = some (0, ψ') ∧ ψ' 0 0 = 1 ∧ sb_D F nR nN nT gg nI φ0 ψ0 Vf Hb rk u nK o s tn pn kp cur φ ψ') := by
  have H := h.1 u h.2.2.2.1
  have hF := ss_F H
  have hR := h.2.2.1
  have hx := h.2.2.2.2.1
  have hm := h.2.2.2.2.2.1
  have h12 : ψ 0 12 = 1 := h.2.2.2.2.2.2.2.2.2.2.2.2.1
  unfold mo_ranked
  rcases sg_guess H hx.1 hm.1 h12 x with ⟨g, hg, rfl, e1, e2⟩ | ⟨e1, e2⟩
  · left
    have r := hR g hg
    refine ⟨Int32.ofNat (rk g), qm_u ψ 0 0 0, e1, sx_at H hR hx.1 hg, ?_, ya_u_same _ _ _ _, h.th 0⟩
    rw [e2]
    simp only [yb1]
    rw [if_neg (by decide)]
    unfold mo_ranked_L14
    rw [if_neg (by decide), ya_in (by omega) (by omega), ya_nn (by omega), hm.1 16 g (by omega), r.2.1]
    rfl
  · right
    refine ⟨qm_u ψ 0 0 1, e1, ?_, ya_u_same _ _ _ _, h.th 1⟩
    rw [e2]
    simp only [yb1]
    rw [if_pos trivial]
    unfold mo_ranked_L14
    rw [if_pos (by decide)]
theorem sn_ranked (h : sA_D tn φ ψ) (x : Int32) : ∃ ψ', mo_ranked F ψ x = some (0, ψ') ∧ ψ' 0 0 = 1 ∧ sA_D tn φ ψ' := by
  refine ⟨qm_u ψ 0 0 1, ?_, ya_u_same _ _ _ _, h.t 1⟩
  unfold mo_ranked mo_isGuess
  rw [h.1, if_pos rfl]
  simp only [yb1]
  rw [if_pos trivial]
  unfold mo_ranked_L14
  rw [if_pos (by decide)]
end S25
