/-! SEMANTICS: expressions, the whole -/
section Y5
variable {F nR n cnt t sz cd w k op len : Nat} {b : Nat → Int32} {T φ ψ φ0 ψ0 : qm_F} {L : List (Nat × Nat)} {t0 : Nat}
theorem yk_cn (hK : yk_TK F n cnt b T) : cnt ≤ n + 1 ∧ n ≤ 800 := by obtain ⟨-, k2, k3, -⟩ := hK; omega
theorem ye_setop (h : ye_ac n cnt b T w k op φ0 ψ0 t0 sz cd φ ψ t len) (op' : Nat) : ye_ac n cnt b T w k op' φ0 ψ0 t0 sz cd φ (qm_u ψ 0 28 (Int32.ofNat op')) t len := by
  obtain ⟨a1, a2, a3, a4, a5, a6, a7, a8, a9, a10⟩ := h
  obtain ⟨⟨c1, c2⟩, ⟨d1, d2, d3, d4, d5⟩, c3, c4, c5⟩ := a4
  refine ⟨a1, a2, a3, ⟨⟨c1, c2⟩, ⟨d1, d2, d3, d4, d5⟩, c3, c4, c5⟩, rfl, a6, ?_, a8, a9, a10⟩
  intro x j x1 x2
  rw [← a7 x j x1 x2]
  unfold qm_u
  repeat' split
  all_goals first | rfl | omega
/-- a sign is taken -/
theorem ye_takes (hK : yk_TK F n cnt b T) (h : ye_ac n cnt b T w k op φ0 ψ0 t0 sz cd φ ψ t len) (c : Int32) (hc : yk_cls c = 3) :
    (T 0 t = c ∧ ∃ ψ', pa_take F nR n cnt φ c = some (1, qm_u φ 10 3 (Int32.ofNat (t + 1))) ∧ mo_takesSign F ψ c = some (1, ψ') ∧ ye_ac n cnt b T w k op φ0 ψ0 t0 sz cd (qm_u φ 10 3 (Int32.ofNat (t + 1))) ψ' (t + 1) len) ∨
    (T 0 t ≠ c ∧ ∃ φ' ψ', pa_take F nR n cnt φ c = some (0, φ') ∧ mo_takesSign F ψ c = some (0, ψ') ∧ ye_bad t0 sz cd φ0 ψ0 φ' ψ') := by
  have hcn := yk_cn hK
  have hne : ∀ z : Int32, yk_cls z ≠ 3 → c ≠ z := fun z hz e => hz (by rw [← e]; exact hc)
  unfold mo_takesSign
  rw [yx_take h.2.2.1 h.2.1 (by omega) (by omega), ym_sign hK h.2.2.2.1 h.2.1 c hc]
  simp only [yb1]
  by_cases q : T 0 t = c
  · rw [if_pos q, if_pos q, ym_must1 h.2.2.2.1]
    simp only [yb2]
    rw [if_pos (by decide)]
    obtain ⟨ψ', e, ac⟩ := ye_next' hK h (by rw [q]; exact hne 0 (by decide)) (by rw [q]; exact hne 1 (by decide)) (fun z => absurd (q.symm.trans z) (hne 97 (by decide)))
    rw [e]
    exact Or.inl ⟨q, ψ', by first | rfl | trivial, by first | rfl | trivial, ac⟩
  · rw [if_neg q, if_neg q, ym_must0 h.2.2.2.1 (by decide)]
    simp only [yb2]
    rw [if_neg (by decide)]
    exact Or.inr ⟨q, _, _, rfl, rfl, ye_fault h (by decide)⟩
def ye_pre (n cnt : Nat) (b : Nat → Int32) (T : qm_F) (L : List (Nat × Nat)) (op : Nat) (φ ψ : qm_F) (t sz cd : Nat) : Prop :=
  yp_X n cnt T t sz φ ∧ yp_M n b T t cd ψ ∧ ψ 0 28 = Int32.ofNat op ∧ yn_NM cnt T L φ ψ ∧ t < cnt ∧ sz ≤ t + 1 ∧ cd ≤ t
theorem ye_ac.pre (h : ye_ac n cnt b T w k op φ0 ψ0 t0 sz cd φ ψ t len) (hN : yn_NM cnt T L φ0 ψ0) (h1 : sz + len ≤ t + 1) (h2 : cd + len ≤ t) : ye_pre n cnt b T L op φ ψ t (sz + len) (cd + len) :=
  ⟨h.2.2.1, h.2.2.2.1, h.2.2.2.2.1, hN.fr (fun a j ha => h.2.2.2.2.2.1 a j (by omega) (by omega) (by omega) (by omega)) (fun j hj => h.2.2.2.2.2.2.1 3 j (by omega) (by omega)), h.2.1, h1, h2⟩
/-- ~ - and ( are opened, or one too many -/
theorem ye_opens (hK : yk_TK F n cnt b T) (h : ye_ac n cnt b T w k op φ0 ψ0 t0 sz cd φ ψ t len) (ho : op ≤ 6) (h0 : T 0 t ≠ 0) (h1 : T 0 t ≠ 1) (h9 : T 0 t ≠ 97) :
    (op < 6 ∧ ∃ ψ', mo_opens F ψ = some (1, ψ') ∧ ye_ac n cnt b T w k (op + 1) φ0 ψ0 t0 sz cd (qm_u φ 10 3 (Int32.ofNat (t + 1))) ψ' (t + 1) len) ∨
    (op = 6 ∧ ∃ ψ', mo_opens F ψ = some (0, ψ') ∧ ye_bad t0 sz cd φ0 ψ0 (qm_u φ 10 5 (8 * T 1 t + 5)) ψ') := by
  have e6 : (6 : Int32) = Int32.ofNat 6 := rfl
  unfold mo_opens mo_opens_L15
  rw [h.2.2.2.2.1, e6]
  by_cases q : op = 6
  · rw [if_pos (by rw [ya_le (by omega) (by omega)]; omega), ym_must0 h.2.2.2.1 (by decide)]
    simp only [yb2]
    rw [if_neg (by decide)]
    exact Or.inr ⟨q, _, rfl, ye_fault h (by decide)⟩
  · rw [if_neg (by rw [ya_le (by omega) (by omega)]; omega), ym_must1 h.2.2.2.1]
    simp only [yb2]
    rw [if_pos (by decide), h.2.2.2.2.1, ya_add1]
    obtain ⟨ψ', e, ac⟩ := ye_next hK h (op + 1) h0 h1 (fun z => absurd z h9)
    rw [e]
    exact Or.inl ⟨by omega, ψ', rfl, ac⟩
theorem ye_name (hF : 2000 ≤ F) (hK : yk_TK F n cnt b T) (h : ye_pre n cnt b T L op φ ψ t sz cd) (h9 : T 0 t = 97) : (∃ φ' ψ' t' len, pa_nameUsed F nR n cnt φ = some (1, φ') ∧ (qb1 (mo_slotOf F ψ (ψ 0 8)) fun y6 => if y6 < 0 then mo_unary_L165 F (fun _ _ _ _ => none) ψ 0 else mo_unary_L165 F (fun _ _ _ _ => none) ψ 1) = some (1, ψ') ∧ t < t' ∧ t + len ≤ t' ∧ ye_ac n cnt b T 1 1 op φ ψ t sz cd φ' ψ' t' len) ∨ (∃ φ' ψ', pa_nameUsed F nR n cnt φ = some (0, φ') ∧ (qb1 (mo_slotOf F ψ (ψ 0 8)) fun y6 => if y6 < 0 then mo_unary_L165 F (fun _ _ _ _ => none) ψ 0 else mo_unary_L165 F (fun _ _ _ _ => none) ψ 1) = some (0, ψ') ∧ ye_bad t sz cd φ ψ φ' ψ') := by
  have hcn := yk_cn hK
  obtain ⟨hX, hM, hop, hN, ht, hsz, hcd⟩ := h
  have ac0 := ye_refl hX hM hop ht
  have hw : ψ 0 8 = T 4 t := hM.2.1.2.2.2.2 (by rw [h9]; decide)
  have hnx := yk_next hK ht (by rw [h9]; decide) (by rw [h9]; decide)
  unfold pa_nameUsed mo_unary_L165
  rw [yx_number hX ht (by omega) (by omega), hw, yn_m (by omega) hK hN hM.2.2.2.1 ht h9]
  simp only [yb1]
  rw [yn_x (by omega) hN]
  simp only [yb1]
  rcases yn_cases T (T 3 t) L with ⟨e, hno⟩ | ⟨i, p, hi, hp, e⟩
  · rw [e, if_neg (by decide), if_pos (by decide), yx_fail hX ht (by omega) (by omega), ym_must0 hM (by decide)]
    simp only [yb2, yg0, yg1]
    rw [if_neg (by decide)]
    exact Or.inr ⟨_, _, rfl, rfl, ye_fault ac0 (by decide)⟩
  · obtain ⟨p1, p2, p3, p4, p5, p6⟩ := hN.2.2.1 i p hi
    rw [e]
    have hne : ¬ (Int32.ofNat p.1 = -1) := fun z => ya_lt0 (a := p.1) (by omega) (by rw [z]; decide)
    rw [if_pos hne, if_neg (ya_lt0 (by omega)), ym_must1 hM]
    simp only [yb2]
    rw [if_pos (by decide), hw, yn_m (by omega) hK hN hM.2.2.2.1 ht h9, e]
    simp only [yb1]
    obtain ⟨φ1, ψ1, e1, e2, ac1⟩ := ye_emit (F := F) (o := 2) (a := Int32.ofNat p.1) (c := 1) (v := Int32.ofNat p.1) (k' := 1) (W := 1) ac0 (by omega) (by omega) (by omega) (Or.inr (Or.inl ⟨rfl, rfl, rfl, p.1, p3, rfl⟩)) (by omega) (fun h hh => by
      unfold ye_h1
      rw [if_pos (Or.inr rfl), if_pos (by omega)]) nR
    rw [Nat.add_zero] at e1
    rw [e1, e2]
    simp only [yb1, yb2]
    have hat : φ1 10 3 = Int32.ofNat t := ac1.2.2.1.1
    have e3 : (3 : Int32) = Int32.ofNat 3 := rfl
    have e8 : (8 : Int32) = Int32.ofNat 8 := rfl
    have key := hK
    obtain ⟨-, -, -, -, -, -, -, k8, k9, -⟩ := key
    have hw3 : ψ 3 (15 + p.1) = T 4 t := by rw [p6]; exact (k8 p.2 t p4 ht p5 h9).mp hp
    -- what no other slot says
    have huni : ∀ k, k < 15 → ψ 3 (15 + k) = T 4 t → k = p.1 := by
      intro k hk hz
      by_cases q : ∃ p, p ∈ L ∧ p.1 = k
      · obtain ⟨z, hz1, rfl⟩ := q
        obtain ⟨j, hj⟩ := List.getElem?_of_mem hz1
        obtain ⟨-, -, -, c4, c5, c6⟩ := hN.2.2.1 j z hj
        rw [c6] at hz
        have e := (k8 z.2 t c4 ht c5 h9).mpr hz
        have := hN.2.2.2.2 i j p z hi hj (Or.inl (hp.trans e.symm))
        subst this
        rw [hi] at hj
        cases hj
        rfl
      · rw [hN.2.2.2.1 k hk (fun p hp hq => q ⟨p, hp, hq⟩)] at hz
        exact absurd hz.symm (k9 t ht h9)
    by_cases qh : 3 ≤ p.1 ∧ p.1 < 8
    · rw [if_neg (by rw [e3, ya_lt (by omega) (by omega)]; omega), if_neg (by rw [e8, ya_le (by omega) (by omega)]; omega)]
      have hmk : to_markHole F nR n φ1 (φ1 10 3) (Int32.ofNat p.1 - 3) = some (qm_u (qm_u φ1 6 t 2) 9 t (Int32.ofNat (p.1 - 3))) := by
        unfold to_markHole
        rw [hat, ac1.2.2.1.2.1, if_neg (ya_lt0 (by omega)), if_neg (by rw [ya_le (by omega) (by omega)]; omega), ya_in (by omega) (by omega), ya_nn (by omega), e3, ya_sub (by omega)]
        rfl
      rw [hmk]
      simp only [yb1]
      have hat2 : (qm_u (qm_u φ1 6 t 2) 9 t (Int32.ofNat (p.1 - 3))) 10 3 = Int32.ofNat t := hat
      rw [hat2, ya_add1]
      obtain ⟨ψ2, e4, ac3⟩ := ye_nextG (φ' := qm_u (qm_u (qm_u φ1 6 t 2) 9 t (Int32.ofNat (p.1 - 3))) 10 3 (Int32.ofNat (t + 1))) hK ac1 op (by rw [h9]; decide) (by rw [h9]; decide) rfl (by
        intro a j x1 x2
        unfold qm_u
        repeat' split
        all_goals first | rfl | omega) ⟨fun _ => Or.inl ⟨p.1 - 3, by omega, by rw [show 18 + (p.1 - 3) = 15 + p.1 by omega]; exact hw3, by simp [qm_u], by simp [qm_u]⟩, fun z => absurd h9 z⟩
      rw [ye_op0 ac1] at e4
      rw [e4]
      exact Or.inl ⟨_, _, t + 1, 1, rfl, rfl, by omega, by omega, ac3⟩
    · obtain ⟨ψ2, e4, ac3⟩ := ye_next' hK ac1 (by rw [h9]; decide) (by rw [h9]; decide) (fun _ => ⟨fun _ => Or.inr ⟨fun k hk hz => by
          have := huni (3 + k) (by omega) (by rw [← hz, show 18 + k = 15 + (3 + k) by omega])
          omega, by rw [(ac1.2.2.1.2.2.1 t (Nat.le_refl _) ht).1]; exact h9⟩, fun z => absurd h9 z⟩)
      rw [e4, hat, ya_add1]
      refine Or.inl ⟨_, _, t + 1, 1, ?_, rfl, by omega, by omega, ac3⟩
      by_cases q3 : p.1 < 3
      · rw [if_pos (by rw [e3, ya_lt (by omega) (by omega)]; omega)]
      · rw [if_neg (by rw [e3, ya_lt (by omega) (by omega)]; omega), if_pos (by rw [e8, ya_le (by omega) (by omega)]; omega)]
end Y5
