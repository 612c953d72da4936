/-! SEMANTICS: statements, more steps -/
section Y9
variable {F nR n cnt t sz cd ns br lt s : Nat} {b : Nat → Int32} {T φ ψ : qm_F} {L : List (Nat × Nat)}
def ys_ex (sz : Nat) (φ φ' : qm_F) : Prop := ∀ a j, ¬ (a = 14 ∧ j = 13) → ¬ ((a = 20 ∨ a = 21 ∨ a = 22) ∧ j = sz) → φ' a j = φ a j
theorem ys_emit (hK : yk_TK F n cnt b T) (h : ys_S n cnt b T t sz cd ns br lt L φ ψ) (hs : sz < cnt) (o a g : Int32) : ∃ φ', pr_emit F nR n cnt φ o a g = some (Int32.ofNat sz, φ') ∧ ys_S n cnt b T t (sz + 1) cd ns br lt L φ' ψ ∧ ys_ex sz φ φ' ∧ φ' 20 sz = o ∧ φ' 21 sz = a ∧ φ' 22 sz = g := by
  have hcn := yk_cn hK
  refine ⟨_, yx_emit h.2.1 hs (by omega) o a g, ?_, ?_, by simp [qm_u], by simp [qm_u], by simp [qm_u]⟩
  · obtain ⟨a1, ⟨b1, b2, b3, b4, b5⟩, a3, a4, a5, a6⟩ := h
    exact ⟨a1, ⟨b1, b2, b3, b4, rfl⟩, a3, a4.fr (fun a j ha => by rcases ha with rfl | rfl | rfl <;> rfl) (fun _ _ => rfl), a5, a6⟩
  · intro x j x1 x2
    unfold qm_u
    repeat' split
    all_goals first | rfl | omega
theorem ys_w6 (h : ys_S n cnt b T t sz cd ns br lt L φ ψ) (i : Nat) (v : Int32) : ys_S n cnt b T t sz cd ns br lt L φ (qm_u ψ 6 i v) := by
  obtain ⟨a1, a2, ⟨⟨c1, c2⟩, ⟨d1, d2, d3, d4, d5⟩, c3, c4, c5⟩, a4, a5, a6, a7, a8, a9⟩ := h
  exact ⟨a1, a2, ⟨⟨c1, c2⟩, ⟨d1, d2, d3, d4, d5⟩, c3, c4, c5⟩, a4.fr (fun _ _ _ => rfl) (fun _ _ => rfl), a5, a6, a7, a8, a9⟩
theorem ys_at (h : ψ 0 13 = 1) (s : Nat) : mo_at F ψ (Int32.ofNat s) = some (Int32.ofNat (144 + 6 * s)) := by
  unfold mo_at
  rw [h, show (24 : Int32) * 1 = Int32.ofNat 24 from rfl, ya_add, show (6 : Int32) = Int32.ofNat 6 from rfl, ya_mul, Nat.mul_add]
theorem ys_ix (s k : Nat) (hs : s < 24) (hk : k < 6) : qm_in (Int32.ofNat (144 + 6 * s) + Int32.ofNat k) 288 = true ∧ (Int32.ofNat (144 + 6 * s) + Int32.ofNat k).toNatClampNeg = 144 + 6 * s + k := by
  rw [ya_add]
  exact ⟨ya_in (by omega) (by omega), ya_nn (by omega)⟩
/-- an E of a statement -/
theorem ys_E (hF : 2000 ≤ F) (hK : yk_TK F n cnt b T) (h : ys_S n cnt b T t sz cd ns br lt L φ ψ) (hs : s < 24) (hsz : sz ≤ t + 1) (hcd : cd ≤ t) :
    (∃ φ' ψ' t' len, cg_E F nR n cnt 80 0 φ 0 0 = some (1, φ') ∧ mo_eOf F ψ (Int32.ofNat s) = some (1, ψ') ∧ t < t' ∧ t + len ≤ t' ∧ ys_S n cnt b T t' (sz + len) (cd + len) ns br lt L φ' ψ' ∧ ye_fx t sz φ φ' ∧ (∀ a j, ¬ (a = 0 ∧ (4 ≤ j ∧ j ≤ 10 ∨ j = 21 ∨ j = 28)) → ¬ ((a = 7 ∨ a = 8) ∧ 800 + cd ≤ j) → ¬ (a = 6 ∧ (j = 144 + 6 * s + 2 ∨ j = 144 + 6 * s + 3)) → ψ' a j = ψ a j) ∧ yl_E (ys_Z φ' ψ') (cd + len) (ys_T ψ' s 2) (ys_T ψ' s 3) sz (sz + len) ∧ (∀ s1, t ≤ s1 → s1 < t' → ye_mk T ψ φ' s1)) ∨
    (∃ φ' ψ', cg_E F nR n cnt 80 0 φ 0 0 = some (0, φ') ∧ mo_eOf F ψ (Int32.ofNat s) = some (0, ψ') ∧ ys_bad φ ψ φ' ψ') := by
  have h' := h
  obtain ⟨a1, a2, ⟨⟨c1, c2⟩, ⟨d1, d2, d3, d4, d5⟩, c3, c4, c5⟩, a4, a5, a6, a7, a8, a9, a10⟩ := h'
  obtain ⟨ψ1, e1⟩ : ∃ ψ1, ψ1 = qm_u (qm_u ψ 0 28 0) 6 (144 + 6 * s + 2) (Int32.ofNat cd) := ⟨_, rfl⟩
  have f1 : ∀ a j, ¬ (a = 0 ∧ j = 28) → ¬ (a = 6 ∧ j = 144 + 6 * s + 2) → ψ1 a j = ψ a j := by
    intro a j x1 x2
    rw [e1]
    unfold qm_u
    repeat' split
    all_goals first | rfl | omega
  have hp : ye_pre n cnt b T L 0 φ ψ1 t sz cd := by
    refine ⟨a2, ?_, by rw [e1]; rfl, a4.fr (fun _ _ _ => rfl) (fun j _ => f1 3 j (by omega) (by omega)), a1, hsz, hcd⟩
    rw [e1]
    exact ⟨⟨c1, c2⟩, ⟨d1, d2, d3, d4, d5⟩, c3, c4, c5⟩
  have hm : mo_eOf F ψ (Int32.ofNat s) = (qb2 (qb2 (mg_E F 79 1 ψ1 0 0) fun y1 φ1 => qg (qm_bz y1) (some (y1, φ1))) fun y2 φ1 => if ¬ y2 = 0 then (qb1 (mo_at F φ1 (Int32.ofNat s)) fun y3 => qg (qm_in (y3 + 3) 288) <| some (1, (qm_u φ1 6 ((y3 + 3).toNatClampNeg) (φ1 0 21)))) else some (0, φ1)) := by
    unfold mo_eOf
    rw [ys_at (by exact c4)]
    simp only [yb1]
    have i2 := ys_ix s 2 hs (by omega)
    rw [show (2 : Int32) = Int32.ofNat 2 from rfl, i2.1, i2.2, c5, ← e1]
    rfl
  rcases ye_E (nR := nR) (mx := 80) (mm := 79) hF hK (by omega) (by omega) hp with ⟨φ', ψ', t', len, x1, x2, l1, l2, ac⟩ | ⟨φ', ψ', x1, x2, hb⟩
  · rw [x2] at hm
    simp only [yb2, yg01, yg1] at hm
    obtain ⟨b1, b2, b3, b4, b5, b6, b7, b8, b9, b10⟩ := ac
    have i3 := ys_ix s 3 hs (by omega)
    have hm2 : mo_eOf F ψ (Int32.ofNat s) = some (1, qm_u ψ' 6 (144 + 6 * s + 3) (Int32.ofNat (cd + len))) := by
      rw [hm, if_pos (by decide), ys_at b4.2.2.2.1]
      simp only [yb1]
      rw [show (3 : Int32) = Int32.ofNat 3 from rfl, i3.1, i3.2, b4.2.2.2.2]
      rfl
    have hn : yn_NM cnt T L φ' ψ' := hp.2.2.2.1.fr (fun a j ha => b6 a j (by omega) (by omega) (by omega) (by omega)) (fun j hj => b7 3 j (by omega) (by omega))
    have f2 : ∀ a j, ¬ (a = 0 ∧ (4 ≤ j ∧ j ≤ 10 ∨ j = 21 ∨ j = 28)) → ¬ ((a = 7 ∨ a = 8) ∧ 800 + cd ≤ j) → ¬ (a = 6 ∧ (j = 144 + 6 * s + 2)) → ψ' a j = ψ a j := by
      intro a j y1 y2 y3
      rw [b7 a j (by omega) (by omega), f1 a j (by omega) (by omega)]
    refine Or.inl ⟨φ', _, t', len, x1, hm2, l1, l2, ?_, b6, ?_, ?_, ?_⟩
    · refine ys_w6 ⟨b2, b3, b4, hn, by rw [b6 14 4 (by omega) (by omega) (by omega) (by omega)]; exact a5, by rw [f2 _ _ (by omega) (by omega) (by omega)]; exact a6, by rw [f2 _ _ (by omega) (by omega) (by omega)]; exact a7, by rw [f2 _ _ (by omega) (by omega) (by omega)]; exact a8, a9, a10⟩ _ _
    · intro a j y1 y2 y3
      rw [← f2 a j y1 y2 (by omega)]
      unfold qm_u
      repeat' split
      all_goals first | rfl | omega
    · have hcd8 : ψ' 6 (144 + 6 * s + 2) = Int32.ofNat cd := by
        rw [b7 6 _ (by omega) (by omega), e1]
        simp [qm_u]
      refine ⟨cd, len, Nat.le_refl _, ?_, ?_, rfl, ?_, ?_⟩
      · unfold ys_T
        rw [← hcd8]
        simp [qm_u]
      · unfold ys_T
        simp [qm_u]
      · intro i hi
        exact b8 i hi
      · exact b9 0 (by omega)
    · intro s1 y1 y2
      exact (b10 s1 y1 y2).fr rfl rfl (fun k hk => (f1 3 _ (by omega) (by omega)).symm)
  · rw [x2] at hm
    obtain ⟨b1, b2, b3, b4⟩ := hb
    refine Or.inr ⟨φ', ψ', x1, by rw [hm]; rfl, b1, b2, fun a j x => b3 a j (by omega) (by omega) (by omega) (by omega), fun a j y1 y2 y3 y4 y5 y6 => ?_⟩
    rw [b4 a j (by omega) (by omega), f1 a j (by omega) (by omega)]
/-- the token that is told here names no hole -/
theorem yn_nomk (hK : yk_TK F n cnt b T) (h : yn_NM cnt T L φ ψ) (ht : t < cnt) (h9 : T 0 t = 97) (hno : ∀ p, p ∈ L → T 3 p.2 = T 3 t → ¬ (3 ≤ p.1 ∧ p.1 < 8)) : ∀ k, k < 5 → ψ 3 (18 + k) ≠ T 4 t := by
  obtain ⟨-, -, -, -, -, -, -, k8, k9, -⟩ := hK
  obtain ⟨a1, a2, a3, a4, a5⟩ := h
  intro k hk hz
  by_cases q : ∃ p, p ∈ L ∧ p.1 = 3 + k
  · obtain ⟨p, hp, hpk⟩ := q
    obtain ⟨i, hi⟩ := List.getElem?_of_mem hp
    obtain ⟨-, -, -, b4, b5, b6⟩ := a3 i p hi
    rw [hpk, show 15 + (3 + k) = 18 + k by omega, hz] at b6
    exact hno p hp ((k8 p.2 t b4 ht b5 h9).mpr b6.symm) (by omega)
  · have := a4 (3 + k) (by omega) (fun p hp hq => q ⟨p, hp, hq⟩)
    rw [show 15 + (3 + k) = 18 + k by omega, hz] at this
    exact k9 t ht h9 this
/-- a new name -/
theorem ys_new (hF : 2000 ≤ F) (hK : yk_TK F n cnt b T) (h : ys_S n cnt b T t sz cd ns br lt L φ ψ) :
    (T 0 t = 97 ∧ (∀ p, p ∈ L → T 3 p.2 ≠ T 3 t) ∧ pa_takeNewName F nR n cnt φ = some (1, qm_u (qm_u φ 10 4 (T 3 t)) 10 3 (Int32.ofNat (t + 1))) ∧ mo_newName F ψ = some (1, ψ)) ∨
    (∃ φ' ψ', pa_takeNewName F nR n cnt φ = some (0, φ') ∧ mo_newName F ψ = some (0, ψ') ∧ ys_bad φ ψ φ' ψ') := by
  have hcn := yk_cn hK
  have h' := h
  obtain ⟨ht, hX, hM, hN, -⟩ := h'
  by_cases q : T 0 t = 97
  · have hw : ψ 0 8 = T 4 t := hM.2.1.2.2.2.2 (by rw [q]; decide)
    have hX1 : yp_X n cnt T t sz (qm_u φ 10 4 (T 3 t)) := ⟨hX.1, hX.2.1, hX.2.2.1, hX.2.2.2.1, hX.2.2.2.2⟩
    have hN1 : yn_NM cnt T L (qm_u φ 10 4 (T 3 t)) ψ := hN.fr (fun a j ha => by rcases ha with rfl | rfl | rfl <;> rfl) (fun _ _ => rfl)
    have hx : pa_takeNewName F nR n cnt φ = if yn_lk T (T 3 t) L = -1 then some (1, qm_u (qm_u φ 10 4 (T 3 t)) 10 3 (Int32.ofNat (t + 1))) else some (0, qm_u (qm_u φ 10 4 (T 3 t)) 10 5 (8 * T 1 t + 3)) := by
      unfold pa_takeNewName
      rw [yx_kind hX ht (by omega) (by omega)]
      simp only [yb1]
      rw [if_pos q, yx_number hX ht (by omega) (by omega)]
      simp only [yb1]
      rw [yn_x (by omega) hN1, yx_fail hX1 ht (by omega) (by omega), hX.1, ya_add1]
      rfl
    have hm : mo_newName F ψ = if 0 ≤ yn_lk T (T 3 t) L then some (0, qm_u (qm_u ψ 0 9 3) 0 10 (T 1 t)) else some (1, ψ) := by
      unfold mo_newName mo_newName_L29
      rw [ym_isName hK hM ht, if_pos q]
      simp only [yb1]
      rw [ym_must1 hM]
      simp only [yb2]
      rw [if_neg (by decide), hw, yn_m (by omega) hK hN hM.2.2.2.1 ht q, ym_must1 hM, ym_must0 hM (by decide)]
      rfl
    rcases yn_cases T (T 3 t) L with ⟨e, hno⟩ | ⟨i, p, hi, hp, e⟩
    · rw [e] at hx hm
      exact Or.inl ⟨q, hno, by rw [hx]; rfl, by rw [hm]; rfl⟩
    · have hp15 : p.1 < 15 := (hN.2.2.1 i p hi).2.2.1
      have hne : ¬ (Int32.ofNat p.1 = -1) := fun z => ya_lt0 (a := p.1) (by omega) (by rw [z]; decide)
      rw [e, if_neg hne] at hx
      rw [e, if_pos (ya_ge0 (by omega))] at hm
      exact Or.inr ⟨_, _, hx, hm, ys_fault h (by decide) (ys_u104 _).lo (ys_cf0 _)⟩
  · refine Or.inr ⟨_, _, ?_, ?_, ys_fault (f := 1) h (by decide) (ys_lo0 _) (ys_cf0 _)⟩
    · unfold pa_takeNewName
      rw [yx_kind hX ht (by omega) (by omega)]
      simp only [yb1]
      rw [if_neg q, yx_fail hX ht (by omega) (by omega)]
      rfl
    · unfold mo_newName
      rw [ym_isName hK hM ht, if_neg q]
      simp only [yb1]
      rw [ym_must0 hM (by decide)]
      rfl
end Y9
