/-! SEMANTICS: statements, both parsers alike -/
section Y15
variable {F nR n cnt t sz cd ns br lt s p : Nat} {b : Nat → Int32} {T φ ψ : qm_F} {L : List (Nat × Nat)}
theorem ys_tells (h : ψ 0 13 = 1) (v : Int32) : mo_tells F ψ 4 v = some (qm_u ψ 2 11 v) := by
  unfold mo_tells
  rw [h]
  rfl
/-- the reference's statement, from what its body does -/
theorem ys_mst (hM : yp_M n b T t cd ψ) (hns : ψ 2 11 = Int32.ofNat s) (hs : s < 24) (kd : Int32) (hkd : 0 ≤ kd) (g : Nat → qm_F → Int32 → Int32 → Option (Int32 × qm_F)) (hl : kd = 5 → ψ 0 30 < 3) :
    mo_statementHere_L50 F g ψ kd = qb2 (g 2 (qm_u (qm_u (qm_u ψ 2 11 (Int32.ofNat (s + 1))) 6 (144 + 6 * s) kd) 6 (144 + 6 * s + 4) 0) kd (Int32.ofNat s)) fun y4 φ3 => if ¬ y4 = 0 then (if kd = 2 then mo_statementHere_L155 F g φ3 (Int32.ofNat s) else qb1 (mo_at F φ3 (Int32.ofNat s)) fun y5 => qb1 (mo_had F φ3 4) fun y6 => qg (qm_in (y5 + 4) 288) <| mo_statementHere_L155 F g (qm_u φ3 6 ((y5 + 4).toNatClampNeg) y6) (Int32.ofNat s)) else some (0, φ3) := by
  have i0 : qm_in (Int32.ofNat (144 + 6 * s)) 288 = true ∧ (Int32.ofNat (144 + 6 * s)).toNatClampNeg = 144 + 6 * s := ⟨ya_in (by omega) (by omega), ya_nn (by omega)⟩
  have i4 := ys_ix s 4 hs (by omega)
  have hb := hM.2.2.2.1
  have key : mo_statementHere_L81 F g ψ kd (Int32.ofNat s) 1 = qb2 (g 2 (qm_u (qm_u (qm_u ψ 2 11 (Int32.ofNat (s + 1))) 6 (144 + 6 * s) kd) 6 (144 + 6 * s + 4) 0) kd (Int32.ofNat s)) fun y4 φ3 => if ¬ y4 = 0 then (if kd = 2 then mo_statementHere_L155 F g φ3 (Int32.ofNat s) else qb1 (mo_at F φ3 (Int32.ofNat s)) fun y5 => qb1 (mo_had F φ3 4) fun y6 => qg (qm_in (y5 + 4) 288) <| mo_statementHere_L155 F g (qm_u φ3 6 ((y5 + 4).toNatClampNeg) y6) (Int32.ofNat s)) else some (0, φ3) := by
    unfold mo_statementHere_L81
    rw [ym_must1 hM]
    simp only [yb2]
    rw [if_pos (by decide), ya_add1, ys_tells hb]
    simp only [yb1]
    rw [ys_at (by exact hb)]
    simp only [yb1]
    rw [i0.1, i0.2, ys_at (by exact hb)]
    simp only [yb1, yg1]
    rw [show (4 : Int32) = Int32.ofNat 4 from rfl, i4.1, i4.2]
    rfl
  unfold mo_statementHere_L50 mo_statementHere_L76
  rw [ys_had hb, hns]
  simp only [yb1]
  rw [if_neg (by rw [show (24 : Int32) = Int32.ofNat 24 from rfl, ya_le (by omega) (by omega)]; omega)]
  by_cases q : kd = 5
  · rw [if_neg (by simp [q]), if_neg (Int32.not_le.mpr (hl q))]
    exact key
  · rw [if_pos q]
    exact key
theorem ys_155 (hb : ψ 0 13 = 1) (hs : s < 24) (g : Nat → qm_F → Int32 → Int32 → Option (Int32 × qm_F)) : mo_statementHere_L155 F g ψ (Int32.ofNat s) = some (1, qm_u ψ 6 (144 + 6 * s + 5) (ψ 2 11)) := by
  have i5 := ys_ix s 5 hs (by omega)
  unfold mo_statementHere_L155
  rw [ys_at hb, ys_had hb]
  simp only [yb1]
  rw [show (5 : Int32) = Int32.ofNat 5 from rfl, i5.1, i5.2]
  rfl
/-- head and tail of a statement around its body -/
theorem ys_asm (hK : yk_TK F n cnt b T) (h : ys_S n cnt b T t p cd s br lt L φ ψ) (hs : s < 24) (hp : p ≤ t) (htn : t + 1 < cnt) (kd : Int32) (x y : Option (Int32 × qm_F)) (bx : qm_F → Option (Int32 × qm_F)) (bm : qm_F → Option (Int32 × qm_F)) (g : Nat → qm_F → Int32 → Int32 → Option (Int32 × qm_F))
    (hx : ∀ φ1, pr_emit F nR n cnt (qm_u φ 14 4 (Int32.ofNat (s + 1))) 6 0 0 = some (Int32.ofNat p, φ1) → x = bx φ1)
    (hy : y = qb2 (bm (qm_u (qm_u (qm_u ψ 2 11 (Int32.ofNat (s + 1))) 6 (144 + 6 * s) kd) 6 (144 + 6 * s + 4) 0)) fun y4 φ3 => if ¬ y4 = 0 then (if kd = 2 then mo_statementHere_L155 F g φ3 (Int32.ofNat s) else qb1 (mo_at F φ3 (Int32.ofNat s)) fun y5 => qb1 (mo_had F φ3 4) fun y6 => qg (qm_in (y5 + 4) 288) <| mo_statementHere_L155 F g (qm_u φ3 6 ((y5 + 4).toNatClampNeg) y6) (Int32.ofNat s)) else some (0, φ3))
    (hb : ∀ φ1 ψ1, ys_S n cnt b T t (p + 1) cd (s + 1) br lt L φ1 ψ1 → ψ1 6 (144 + 6 * s) = kd → (∀ k, k < 5 → ψ1 3 (18 + k) = ψ 3 (18 + k)) → ys_bdy n cnt b T L br lt kd φ1 ψ1 t p cd s (bx φ1) (bm ψ1)) :
    (∃ φ' ψ' t' sz' cd' ns', x = some (1, φ') ∧ y = some (1, ψ') ∧ ys_G n cnt b T L br lt φ ψ t p cd (144 + 6 * s) φ' ψ' t' sz' cd' ns' ∧ t < t' ∧ sz' + t ≤ p + t' ∧ cd' + t ≤ cd + t' ∧ ns' ≤ 24 ∧ yl_st (ys_Z φ' ψ') (ys_T ψ') cd' (YL (ys_Z φ' ψ') (ys_T ψ') cd') br s ns' p sz') ∨
    (∃ φ' ψ', x = some (0, φ') ∧ y = some (0, ψ') ∧ ys_bad φ ψ φ' ψ') := by
  have hcn := yk_cn hK
  have S0 : ys_S n cnt b T t p cd (s + 1) br lt L (qm_u φ 14 4 (Int32.ofNat (s + 1))) (qm_u ψ 2 11 (Int32.ofNat (s + 1))) := by
    obtain ⟨a1, ⟨b1, b2, b3, b4, b5⟩, ⟨⟨c1, c2⟩, ⟨d1, d2, d3, d4, d5⟩, c3, c4, c5⟩, a4, a5, a6, a7⟩ := h
    exact ⟨a1, ⟨b1, b2, b3, b4, b5⟩, ⟨⟨c1, c2⟩, ⟨d1, d2, d3, d4, d5⟩, c3, c4, c5⟩, a4.fr (fun a j ha => by rcases ha with rfl | rfl | rfl <;> rfl) (fun _ _ => rfl), rfl, rfl, a7⟩
  have S1 := ys_w6 (ys_w6 S0 (144 + 6 * s) kd) (144 + 6 * s + 4) 0
  obtain ⟨φ1, e1, S2, ex1, r1, r2, r3⟩ := ys_emit (nR := nR) hK S1 (by omega) 6 0 0
  have fx0 : ys_fx L.length t p φ φ1 := by
    intro a j x1 x2 x3 x4 x5 x6
    rw [ex1 a j (by omega) (by omega)]
    unfold qm_u
    repeat' split
    all_goals first | rfl | omega
  have fm0 : ys_fm cd (144 + 6 * s) lt ψ (qm_u (qm_u (qm_u ψ 2 11 (Int32.ofNat (s + 1))) 6 (144 + 6 * s) kd) 6 (144 + 6 * s + 4) 0) := by
    intro a j x1 x2 x3 x4 x5
    unfold qm_u
    repeat' split
    all_goals first | rfl | omega
  have hx1 := hx φ1 e1
  rcases hb φ1 _ S2 (by rw [ys_u6 _ _ _ 6 _ (by omega), ys_u6s]) (fun k _ => rfl) with ⟨φ2, ψ2, t2, sz2, cd2, ns2, x1, x2, G2, l1, l2, l3, l4, l5, hkk⟩ | ⟨φ2, ψ2, x1, x2, hbad⟩
  · rw [x1] at hx1
    rw [x2] at hy
    simp only [yb2] at hy
    rw [if_pos (by decide)] at hy
    have hb2 := G2.1.2.2.1.2.2.2.1
    have hn2 := G2.1.2.2.2.2.2.1
    have i4 := ys_ix s 4 hs (by omega)
    -- the reference's end
    obtain ⟨ψ3, hy3, f3, v5, S3, w4⟩ : ∃ ψ3, y = some (1, ψ3) ∧ (∀ a j, ¬ (a = 6 ∧ (j = 144 + 6 * s + 4 ∨ j = 144 + 6 * s + 5)) → ψ3 a j = ψ2 a j) ∧ ψ3 6 (144 + 6 * s + 5) = Int32.ofNat ns2 ∧ ys_S n cnt b T t2 sz2 cd2 ns2 br lt L φ2 ψ3 ∧ (kd = 2 → ψ3 6 (144 + 6 * s + 4) = ψ2 6 (144 + 6 * s + 4)) := by
      by_cases q : kd = 2
      · rw [if_pos q, ys_155 hb2 hs, hn2] at hy
        exact ⟨_, hy, fun a j hh => ys_u6 _ _ _ a j (by omega), ys_u6s _ _ _, ys_w6 G2.1 _ _, fun _ => ys_u6 _ _ _ 6 _ (by omega)⟩
      · rw [if_neg q, ys_at hb2, ys_had hb2, hn2] at hy
        simp only [yb1] at hy
        rw [show (4 : Int32) = Int32.ofNat 4 from rfl, i4.1, i4.2, ys_155 (by exact hb2) hs] at hy
        have hn3 : (qm_u ψ2 6 (144 + 6 * s + 4) (Int32.ofNat ns2)) 2 11 = Int32.ofNat ns2 := hn2
        rw [hn3] at hy
        refine ⟨_, hy, fun a j hh => ?_, ys_u6s _ _ _, ys_w6 (ys_w6 G2.1 _ _) _ _, fun z => absurd z q⟩
        rw [ys_u6 _ _ _ a j (by omega), ys_u6 _ _ _ a j (by omega)]
    obtain ⟨-, g2, g3, g4, g5, g6, g7⟩ := G2
    refine Or.inl ⟨φ2, ψ3, t2, sz2, cd2, ns2, hx1, hy3, ⟨S3, fx0.trans g2 (Nat.le_refl _) (Nat.le_refl _) (by omega), ?_, by omega, by omega, by omega, ?_⟩, l1, by omega, l3, l5, ?_⟩
    · intro a j x1 x2 x3 x4 x5
      rw [f3 a j (by omega), g3 a j x1 x2 x3 (by omega) x5]
      exact fm0 a j x1 x2 x3 x4 x5
    · intro u h1 h2
      exact (g7 u h1 h2).fr rfl rfl (fun k hk => rfl)
    · refine ⟨?_, v5, l4, by omega, ?_⟩
      · show φ2 20 p = 6
        rw [g2 20 p (by omega) (by omega) (by omega) (by omega) (by omega) (by omega)]
        exact r1
      · have := hkk (ys_T ψ3) ⟨fun k hk => f3 6 _ (by omega), fun q => w4 q, fun s1 y1 y2 k hk => f3 6 _ (by omega)⟩
        have ez : ys_Z φ2 ψ3 = ys_Z φ2 ψ2 := by
          funext r i
          unfold ys_Z
          rw [f3 7 _ (by omega), f3 8 _ (by omega)]
        rw [ez]
        exact this
  · rw [x1] at hx1
    rw [x2] at hy
    simp only [yb2] at hy
    rw [if_neg (by decide)] at hy
    exact Or.inr ⟨φ2, ψ2, hx1, hy, hbad.pre fx0.lo (fm0.cf (by omega))⟩
/-- statements within br braces, lt lets -/
theorem ys_all (hF : 2000 ≤ F) (hK : yk_TK F n cnt b T) : ∀ (j br : Nat), br + j = 4 → ∀ (lt : Nat) (L : List (Nat × Nat)) (mx mm : Nat), lt ≤ 3 → 4 * j + 6 ≤ mx → 4 * j + 6 ≤ mm → ys_stc n cnt b T (cg_S F nR n cnt mx) (mg_S F mm) L br lt := by
  have hcn := yk_cn hK
  intro j
  induction j with
  | zero => ?_
  | succ j ih => ?_
  all_goals
    intro br hbr lt L mx mm hlt hmx hmm φ ψ t sz cd ns hS hsz hcd hns hbeg
    obtain ⟨mx, rfl⟩ : ∃ z, mx = z + 5 := ⟨mx - 5, by omega⟩
    obtain ⟨mm, rfl⟩ : ∃ z, mm = z + 5 := ⟨mm - 5, by omega⟩
    have hbrc : ∀ (lt : Nat) (L : List (Nat × Nat)), lt ≤ 3 → ys_brc n cnt b T (fun φ => cg_S F nR n cnt (mx + 3) 2 φ (Int32.ofNat br) (Int32.ofNat lt)) (fun ψ => mg_S F (mm + 2) 0 ψ 0 0) L br lt := fun lt L hlt =>
      ys_braced (gx := cg_S F nR n cnt (mx + 2)) (gx2 := cg_S F nR n cnt (mx + 1)) (gm := mg_S F (mm + 1)) (gm2 := mg_S F mm) hF hK (by omega) (fun _ _ _ => rfl) (fun _ => rfl) (fun q => by first | exact ih (br + 1) (by omega) lt L (mx + 1) (mm + 1) hlt (by omega) (by omega) | omega)
    have h' := hS
    obtain ⟨ht, hX, hM, hN, h14, h211, h29, h30, -⟩ := h'
    have hne : T 0 t ≠ 0 ∧ T 0 t ≠ 1 := by
      unfold ys_beg at hbeg
      rcases hbeg with z | z | z | z | z | z <;> rw [z] <;> decide
    have htn := yk_next hK ht hne.1 hne.2
    have u1 : cg_S F nR n cnt (mx + 5) 1 φ (Int32.ofNat br) (Int32.ofNat lt) = pa_statement F nR n cnt (cg_S F nR n cnt (mx + 4)) φ (Int32.ofNat br) (Int32.ofNat lt) := rfl
    have u2 : mg_S F (mm + 5) 1 ψ 0 0 = mo_statementHere F (mg_S F (mm + 4)) ψ := rfl
    have e24 : (24 : Int32) = Int32.ofNat 24 := rfl
    have e3 : (3 : Int32) = Int32.ofNat 3 := rfl
    have e8 : (8 : Int32) = Int32.ofNat 8 := rfl
    rw [u1, u2]
    -- what both tell when there is one too many
    have tooMany : ∀ kd : Int32, 0 ≤ kd → ¬ (ns < 24 ∧ (kd = 5 → lt < 3)) → (kd = 5 ↔ T 0 t = 139) → (∃ φ' ψ', pa_statement_L32 F nR n cnt (cg_S F nR n cnt (mx + 4)) φ (Int32.ofNat br) (Int32.ofNat lt) 8 = some (0, φ') ∧ mo_statementHere_L50 F (mg_S F (mm + 4)) ψ kd = some (0, ψ') ∧ ys_bad φ ψ φ' ψ') ∧ (∀ v : Nat, 8 ≤ v → v < 100 → pa_statement_L32 F nR n cnt (cg_S F nR n cnt (mx + 4)) φ (Int32.ofNat br) (Int32.ofNat lt) (Int32.ofNat v) = some (0, qm_u φ 10 5 (8 * T 1 t + 5)) ∧ mo_statementHere_L50 F (mg_S F (mm + 4)) ψ kd = some (0, qm_u (qm_u ψ 0 9 5) 0 10 (T 1 t))) := by
      intro kd hk0 hno hk5
      have hm : mo_statementHere_L50 F (mg_S F (mm + 4)) ψ kd = some (0, qm_u (qm_u ψ 0 9 5) 0 10 (T 1 t)) := by
        have k80 : mo_statementHere_L80 F (mg_S F (mm + 4)) ψ kd (Int32.ofNat ns) = some (0, qm_u (qm_u ψ 0 9 5) 0 10 (T 1 t)) := by
          unfold mo_statementHere_L80 mo_statementHere_L81
          rw [ym_must0 hM (by decide)]
          rfl
        unfold mo_statementHere_L50
        rw [ys_had hM.2.2.2.1, h211]
        simp only [yb1]
        by_cases q24 : ns < 24
        · have q5 : kd = 5 := by
            by_cases z : kd = 5
            · exact z
            · exact absurd ⟨q24, fun w => absurd w z⟩ hno
          rw [if_neg (by rw [e24, ya_le (by omega) (by omega)]; omega), if_neg (by simp [q5]), h30, e3, if_pos]
          · exact k80
          · rw [ya_le (by omega) (by omega)]
            by_cases z : lt < 3
            · exact absurd ⟨q24, fun _ => z⟩ hno
            · omega
        · rw [if_pos (by rw [e24, ya_le (by omega) (by omega)]; omega)]
          exact k80
      have hx : ∀ v : Nat, 8 ≤ v → v < 100 → pa_statement_L32 F nR n cnt (cg_S F nR n cnt (mx + 4)) φ (Int32.ofNat br) (Int32.ofNat lt) (Int32.ofNat v) = some (0, qm_u φ 10 5 (8 * T 1 t + 5)) := by
        intro v hv8 hv
        unfold pa_statement_L32
        rw [if_pos (by rw [e8, ya_le (by omega) (by omega)]; omega), h14, yx_kind hX ht (by omega) (by omega), yx_fail hX ht (by omega) (by omega)]
        simp only [yb1, yb2, yg0, yg1]
        by_cases q24 : ns < 24
        · have q5 : kd = 5 := by
            by_cases z : kd = 5
            · exact z
            · exact absurd ⟨q24, fun w => absurd w z⟩ hno
          rw [if_pos (by rw [e24, ya_lt (by omega) (by omega)]; omega), if_neg (by simp [hk5.mp q5]), if_neg]
          rw [e3, ya_lt (by omega) (by omega)]
          intro z
          exact hno ⟨q24, fun _ => z⟩
        · rw [if_neg (by rw [e24, ya_lt (by omega) (by omega)]; omega)]
      exact ⟨⟨_, _, hx 8 (by omega) (by omega), hm, ys_fault hS (by decide) (ys_lo0 _) (ys_cf0 _)⟩, fun v h1 h2 => ⟨hx v h1 h2, hm⟩⟩
    have goL84 : ∀ v : Nat, 8 ≤ v → v < 100 → ns < 24 → (T 0 t = 139 → lt < 3) → pa_statement_L32 F nR n cnt (cg_S F nR n cnt (mx + 4)) φ (Int32.ofNat br) (Int32.ofNat lt) (Int32.ofNat v) = pa_statement_L84 F nR n cnt (cg_S F nR n cnt (mx + 4)) φ (Int32.ofNat br) (Int32.ofNat lt) (Int32.ofNat v) := by
      intro v hv8 hv q24 ql
      unfold pa_statement_L32
      rw [if_pos (by rw [e8, ya_le (by omega) (by omega)]; omega), h14, yx_kind hX ht (by omega) (by omega), if_pos (by rw [e24, ya_lt (by omega) (by omega)]; omega)]
      simp only [yb1]
      by_cases q : T 0 t = 139
      · rw [if_neg (by simp [q]), if_pos (by rw [e3, ya_lt (by omega) (by omega)]; exact ql q)]
      · rw [if_pos q]
    have goM : ∀ kd : Int32, ys_kd (T 0 t) = kd → 0 ≤ kd → kd ≠ 0 → mo_statementHere F (mg_S F (mm + 4)) ψ = mo_statementHere_L50 F (mg_S F (mm + 4)) ψ kd := by
      intro kd hk hk0 hkne
      unfold mo_statementHere mo_statementHere_L15
      rw [ys_kind hK hM ht, hk]
      simp only [yb1]
      rw [if_neg (Int32.not_lt.mpr hk0), ym_must1 hM]
      simp only [yb2]
      rw [if_pos (by decide), if_pos hkne]
    have goX : ¬ T 0 t = 97 → pa_statement F nR n cnt (cg_S F nR n cnt (mx + 4)) φ (Int32.ofNat br) (Int32.ofNat lt) = pa_statement_L32 F nR n cnt (cg_S F nR n cnt (mx + 4)) φ (Int32.ofNat br) (Int32.ofNat lt) (Int32.ofNat 8) := by
      intro q
      unfold pa_statement
      rw [yx_kind hX ht (by omega) (by omega)]
      simp only [yb1]
      rw [if_pos q]
      rfl
    -- the component's statement once it is sure that it can be
    have em : ∀ φ1, pr_emit F nR n cnt (qm_u φ 14 4 (Int32.ofNat (ns + 1))) 6 0 0 = some (Int32.ofNat sz, φ1) → pa_kind F nR n cnt φ1 = some (T 0 t) ∧ φ1 10 3 = Int32.ofNat t := by
      intro φ1 e
      have hX' : yp_X n cnt T t sz (qm_u φ 14 4 (Int32.ofNat (ns + 1))) := ⟨hX.1, hX.2.1, hX.2.2.1, hX.2.2.2.1, hX.2.2.2.2⟩
      rw [yx_emit hX' (by omega) (by omega)] at e
      have e2 := (Prod.mk.inj (Option.some.inj e)).2
      subst e2
      have hX2 : yp_X n cnt T t (sz + 1) (qm_u (qm_u (qm_u (qm_u (qm_u φ 14 4 (Int32.ofNat (ns + 1))) 20 sz 6) 21 sz 0) 22 sz 0) 14 13 (Int32.ofNat (sz + 1))) := ⟨hX.1, hX.2.1, hX.2.2.1, hX.2.2.2.1, rfl⟩
      exact ⟨yx_kind hX2 ht (by omega) (by omega), hX2.1⟩
    by_cases q97 : T 0 t = 97
    · -- NAME
      have hw : ψ 0 8 = T 4 t := hM.2.1.2.2.2.2 (by rw [q97]; decide)
      have hxs : pa_statement F nR n cnt (cg_S F nR n cnt (mx + 4)) φ (Int32.ofNat br) (Int32.ofNat lt) = pa_statement_L32 F nR n cnt (cg_S F nR n cnt (mx + 4)) φ (Int32.ofNat br) (Int32.ofNat lt) (yn_lk T (T 3 t) L) := by
        unfold pa_statement
        rw [yx_kind hX ht (by omega) (by omega), yx_number hX ht (by omega) (by omega)]
        simp only [yb1]
        rw [if_neg (by simp [q97]), yn_x (by omega) hN]
        rfl
      have hms : mo_statementHere F (mg_S F (mm + 4)) ψ = if yn_lk T (T 3 t) L < 8 then some (0, qm_u (qm_u ψ 0 9 2) 0 10 (T 1 t)) else mo_statementHere_L50 F (mg_S F (mm + 4)) ψ 0 := by
        unfold mo_statementHere mo_statementHere_L15 mo_statementHere_L41 mo_setHere
        rw [ys_kind hK hM ht, q97, show ys_kd 97 = 0 by decide]
        simp only [yb1]
        rw [if_neg (by decide), ym_must1 hM]
        simp only [yb2]
        rw [if_pos (by decide), if_neg (by simp), hw, yn_m (by omega) hK hN hM.2.2.2.1 ht q97]
        simp only [yb1]
        by_cases q8 : yn_lk T (T 3 t) L < 8
        · rw [if_pos q8, if_pos q8]
          simp only [yb1]
          rw [if_pos (by decide), ym_must0 hM (by decide)]
          rfl
        · rw [if_neg q8, if_neg q8]
          simp only [yb1]
          rw [if_neg, ym_must1 hM]
          · rfl
          · intro z
            apply q8
            rw [Int32.lt_iff_toInt_lt] at z ⊢
            have z0 : (0 : Int32).toInt = 0 := rfl
            have z8 : (8 : Int32).toInt = 8 := rfl
            omega
      rw [hxs, hms]
      by_cases q8 : yn_lk T (T 3 t) L < 8
      · rw [if_pos q8]
        refine Or.inr ⟨_, _, ?_, rfl, ys_fault (f := 2) hS (by decide) (ys_lo0 _) (ys_cf0 _)⟩
        unfold pa_statement_L32
        rw [if_neg (Int32.not_le.mpr q8), yx_fail hX ht (by omega) (by omega)]
        rfl
      · rw [if_neg q8]
        rcases yn_cases T (T 3 t) L with ⟨e, hno⟩ | ⟨i, pp, hi, hp, e⟩
        · rw [e] at q8
          exact absurd (by decide) q8
        · obtain ⟨p1, p2, p3, p4, p5, p6⟩ := hN.2.2.1 i pp hi
          have hk8 : 8 ≤ pp.1 := by
            rw [e, e8, ya_lt (by omega) (by omega)] at q8
            omega
          rw [e]
          by_cases q24 : ns < 24
          · refine ys_asm (nR := nR) hK hS q24 hsz htn 0 _ _ (fun φ1 => qb2 (pa_take F nR n cnt (qm_u φ1 10 3 (Int32.ofNat (t + 1))) 61) fun y3 φ2 => if y3 = 0 then some (0, φ2) else qb2 (pa_endedBy F nR n cnt φ2 3 (Int32.ofNat pp.1)) fun y4 φ3 => if y4 = 0 then some (0, φ3) else some (1, φ3)) (fun ψ1 => mg_S F (mm + 4) 2 ψ1 0 (Int32.ofNat ns)) (mg_S F (mm + 4)) ?_ ?_ ?_
            · intro φ1 e1
              obtain ⟨k1, k2⟩ := em φ1 e1
              rw [goL84 pp.1 hk8 (by omega) q24 (fun z => by rw [q97] at z; exact absurd z (by decide))]
              unfold pa_statement_L84
              rw [h14, ya_add1, e1]
              simp only [yb2]
              rw [k1, k2, ya_add1]
              simp only [yb1]
              rw [if_pos q97]
            · exact ys_mst hM h211 q24 0 (by decide) _ (fun z => absurd z (by decide))
            · intro φ1 ψ1 S1 h0 h3
              have u3 : mg_S F (mm + 4) 2 ψ1 0 (Int32.ofNat ns) = qb2 (mo_setsHere F ψ1 (Int32.ofNat ns)) fun y1 φ1 => qg (qm_bz y1) (some (y1, φ1)) := rfl
              have hno := yn_nomk hK S1.2.2.2.1 ht q97 (fun z hz hzz => by
                obtain ⟨jj, hj⟩ := List.getElem?_of_mem hz
                have := hN.2.2.2.2 i jj pp z hi hj (Or.inl (hp.trans hzz.symm))
                subst this
                rw [hi] at hj
                cases hj
                omega)
              have := ys_bSet (nR := nR) hF hK S1 q24 hsz hcd q97 h0 e hk8 p3 hno
              rw [u3]
              rcases this with ⟨a1, a2, a3, a4, a5, a6, x1, x2, rest⟩ | ⟨a1, a2, x1, x2, rest⟩
              · exact Or.inl ⟨a1, a2, a3, a4, a5, a6, x1, by rw [x2]; rfl, rest⟩
              · exact Or.inr ⟨a1, a2, x1, by rw [x2]; rfl, rest⟩
          · have := (tooMany 0 (by decide) (fun z => q24 z.1) ⟨fun z => absurd z (by decide), fun z => by rw [q97] at z; exact absurd z (by decide)⟩).2 pp.1 hk8 (by omega)
            exact Or.inr ⟨_, _, this.1, this.2, ys_fault hS (by decide) (ys_lo0 _) (ys_cf0 _)⟩
    · rw [goX q97]
      -- the five own words
      have five : ∀ (kd : Int32) (w : Int32), T 0 t = w → ys_kd w = kd → 0 ≤ kd → kd ≠ 0 → (kd = 5 ↔ w = 139) → (ns < 24 → (w = 139 → lt < 3) → (∃ φ' ψ' t' sz' cd' ns', pa_statement_L84 F nR n cnt (cg_S F nR n cnt (mx + 4)) φ (Int32.ofNat br) (Int32.ofNat lt) (Int32.ofNat 8) = some (1, φ') ∧ mo_statementHere_L50 F (mg_S F (mm + 4)) ψ kd = some (1, ψ') ∧ ys_G n cnt b T L br lt φ ψ t sz cd (144 + 6 * ns) φ' ψ' t' sz' cd' ns' ∧ t < t' ∧ sz' + t ≤ sz + t' ∧ cd' + t ≤ cd + t' ∧ ns' ≤ 24 ∧ yl_st (ys_Z φ' ψ') (ys_T ψ') cd' (YL (ys_Z φ' ψ') (ys_T ψ') cd') br ns ns' sz sz') ∨
          (∃ φ' ψ', pa_statement_L84 F nR n cnt (cg_S F nR n cnt (mx + 4)) φ (Int32.ofNat br) (Int32.ofNat lt) (Int32.ofNat 8) = some (0, φ') ∧ mo_statementHere_L50 F (mg_S F (mm + 4)) ψ kd = some (0, ψ') ∧ ys_bad φ ψ φ' ψ')) →
          (∃ φ' ψ' t' sz' cd' ns', pa_statement_L32 F nR n cnt (cg_S F nR n cnt (mx + 4)) φ (Int32.ofNat br) (Int32.ofNat lt) (Int32.ofNat 8) = some (1, φ') ∧ mo_statementHere F (mg_S F (mm + 4)) ψ = some (1, ψ') ∧ ys_G n cnt b T L br lt φ ψ t sz cd (144 + 6 * ns) φ' ψ' t' sz' cd' ns' ∧ t < t' ∧ sz' + t ≤ sz + t' ∧ cd' + t ≤ cd + t' ∧ ns' ≤ 24 ∧ yl_st (ys_Z φ' ψ') (ys_T ψ') cd' (YL (ys_Z φ' ψ') (ys_T ψ') cd') br ns ns' sz sz') ∨
          (∃ φ' ψ', pa_statement_L32 F nR n cnt (cg_S F nR n cnt (mx + 4)) φ (Int32.ofNat br) (Int32.ofNat lt) (Int32.ofNat 8) = some (0, φ') ∧ mo_statementHere F (mg_S F (mm + 4)) ψ = some (0, ψ') ∧ ys_bad φ ψ φ' ψ') := by
        intro kd w hw hkd h0 hne0 h5 hgo
        rw [goM kd (by rw [hw]; exact hkd) h0 hne0]
        by_cases q : ns < 24 ∧ (kd = 5 → lt < 3)
        · rw [goL84 8 (by omega) (by omega) q.1 (fun z => q.2 (h5.mpr (hw.symm.trans z)))]
          exact hgo q.1 (fun z => q.2 (h5.mpr z))
        · exact Or.inr (tooMany kd h0 q (by rw [hw]; exact h5)).1
      have l84 : ∀ φ1, pr_emit F nR n cnt (qm_u φ 14 4 (Int32.ofNat (ns + 1))) 6 0 0 = some (Int32.ofNat sz, φ1) → pa_statement_L84 F nR n cnt (cg_S F nR n cnt (mx + 4)) φ (Int32.ofNat br) (Int32.ofNat lt) (Int32.ofNat 8) = (if T 0 t = 133 then (qb2 (pa_endedBy F nR n cnt (qm_u φ1 10 3 (Int32.ofNat (t + 1))) 13 0) fun y5 φ4 => qg (qm_bz y5) (some (y5, φ4))) else if T 0 t = 134 then (qb2 (cg_S F nR n cnt (mx + 4) 3 (qm_u φ1 10 3 (Int32.ofNat (t + 1))) (Int32.ofNat br) (Int32.ofNat lt)) fun y6 φ5 => qg (qm_bz y6) (some (y6, φ5))) else if T 0 t = 136 then (qb2 (cg_S F nR n cnt (mx + 4) 4 (qm_u φ1 10 3 (Int32.ofNat (t + 1))) (Int32.ofNat br) (Int32.ofNat lt)) fun y6 φ5 => qg (qm_bz y6) (some (y6, φ5))) else if T 0 t = 137 then (qb2 (cg_S F nR n cnt (mx + 4) 5 (qm_u φ1 10 3 (Int32.ofNat (t + 1))) (Int32.ofNat br) (Int32.ofNat lt)) fun y6 φ5 => qg (qm_bz y6) (some (y6, φ5))) else (qb2 (cg_S F nR n cnt (mx + 4) 6 (qm_u φ1 10 3 (Int32.ofNat (t + 1))) (Int32.ofNat br) (Int32.ofNat lt)) fun y6 φ5 => qg (qm_bz y6) (some (y6, φ5)))) := by
        intro φ1 e1
        obtain ⟨k1, k2⟩ := em φ1 e1
        unfold pa_statement_L84
        rw [h14, ya_add1, e1]
        simp only [yb2]
        rw [k1, k2, ya_add1]
        simp only [yb1]
        rw [if_neg q97]
      -- a body within its guards
      have grd : ∀ (kd : Int32) (φ1 ψ1 : qm_F) (x y : Option (Int32 × qm_F)), ys_bdy n cnt b T L br lt kd φ1 ψ1 t sz cd ns x y → ys_bdy n cnt b T L br lt kd φ1 ψ1 t sz cd ns (qb2 x fun y6 φ5 => qg (qm_bz y6) (some (y6, φ5))) (qb2 y fun y6 φ5 => qg (qm_bz y6) (some (y6, φ5))) := by
        intro kd φ1 ψ1 x y hh
        rcases hh with ⟨a1, a2, a3, a4, a5, a6, x1, x2, rest⟩ | ⟨a1, a2, x1, x2, rest⟩
        · exact Or.inl ⟨a1, a2, a3, a4, a5, a6, by rw [x1]; rfl, by rw [x2]; rfl, rest⟩
        · exact Or.inr ⟨a1, a2, by rw [x1]; rfl, by rw [x2]; rfl, rest⟩
      unfold ys_beg at hbeg
      rcases hbeg with z | z | z | z | z | z
      · exact absurd z q97
      · refine five 1 133 z (by decide) (by decide) (by decide) (by decide) (fun q24 ql => ?_)
        refine ys_asm (nR := nR) hK hS q24 hsz htn 1 _ _ (fun φ1 => qb2 (pa_endedBy F nR n cnt (qm_u φ1 10 3 (Int32.ofNat (t + 1))) 13 0) fun y6 φ5 => qg (qm_bz y6) (some (y6, φ5))) (fun ψ1 => mg_S F (mm + 4) 2 ψ1 1 (Int32.ofNat ns)) (mg_S F (mm + 4)) (fun φ1 e1 => ?_) (ys_mst hM h211 q24 1 (by decide) _ (fun z => absurd z (by decide))) (fun φ1 ψ1 S1 h0 h3 => ?_)
        · rw [l84 φ1 e1, if_pos z]
        · exact grd 1 φ1 ψ1 _ _ (ys_bMust (nR := nR) hF hK S1 q24 hsz hcd z h0)
      · refine five 2 134 z (by decide) (by decide) (by decide) (by decide) (fun q24 ql => ?_)
        refine ys_asm (nR := nR) hK hS q24 hsz htn 2 _ _ (fun φ1 => qb2 (cg_S F nR n cnt (mx + 4) 3 (qm_u φ1 10 3 (Int32.ofNat (t + 1))) (Int32.ofNat br) (Int32.ofNat lt)) fun y6 φ5 => qg (qm_bz y6) (some (y6, φ5))) (fun ψ1 => mg_S F (mm + 4) 2 ψ1 2 (Int32.ofNat ns)) (mg_S F (mm + 4)) (fun φ1 e1 => ?_) (ys_mst hM h211 q24 2 (by decide) _ (fun z => absurd z (by decide))) (fun φ1 ψ1 S1 h0 h3 => ?_)
        · rw [l84 φ1 e1, if_neg (by rw [z]; decide), if_pos z]
        · exact grd 2 φ1 ψ1 _ _ (ys_bIf (nR := nR) hF hK (hbrc lt L hlt) S1 q24 hsz hcd z h0)
      · refine five 3 136 z (by decide) (by decide) (by decide) (by decide) (fun q24 ql => ?_)
        refine ys_asm (nR := nR) hK hS q24 hsz htn 3 _ _ (fun φ1 => qb2 (cg_S F nR n cnt (mx + 4) 4 (qm_u φ1 10 3 (Int32.ofNat (t + 1))) (Int32.ofNat br) (Int32.ofNat lt)) fun y6 φ5 => qg (qm_bz y6) (some (y6, φ5))) (fun ψ1 => mg_S F (mm + 4) 2 ψ1 3 (Int32.ofNat ns)) (mg_S F (mm + 4)) (fun φ1 e1 => ?_) (ys_mst hM h211 q24 3 (by decide) _ (fun z => absurd z (by decide))) (fun φ1 ψ1 S1 h0 h3 => ?_)
        · rw [l84 φ1 e1, if_neg (by rw [z]; decide), if_neg (by rw [z]; decide), if_pos z]
        · exact grd 3 φ1 ψ1 _ _ (ys_bLoop (nR := nR) hF hK (hbrc lt L hlt) S1 q24 hsz hcd z h0)
      · refine five 4 137 z (by decide) (by decide) (by decide) (by decide) (fun q24 ql => ?_)
        refine ys_asm (nR := nR) hK hS q24 hsz htn 4 _ _ (fun φ1 => qb2 (cg_S F nR n cnt (mx + 4) 5 (qm_u φ1 10 3 (Int32.ofNat (t + 1))) (Int32.ofNat br) (Int32.ofNat lt)) fun y6 φ5 => qg (qm_bz y6) (some (y6, φ5))) (fun ψ1 => mg_S F (mm + 4) 2 ψ1 4 (Int32.ofNat ns)) (mg_S F (mm + 4)) (fun φ1 e1 => ?_) (ys_mst hM h211 q24 4 (by decide) _ (fun z => absurd z (by decide))) (fun φ1 ψ1 S1 h0 h3 => ?_)
        · rw [l84 φ1 e1, if_neg (by rw [z]; decide), if_neg (by rw [z]; decide), if_neg (by rw [z]; decide), if_pos z]
        · exact grd 4 φ1 ψ1 _ _ (ys_bWhile (nR := nR) hF hK (hbrc lt L hlt) S1 q24 hsz hcd z h0)
      · refine five 5 139 z (by decide) (by decide) (by decide) (by decide) (fun q24 ql => ?_)
        refine ys_asm (nR := nR) hK hS q24 hsz htn 5 _ _ (fun φ1 => qb2 (cg_S F nR n cnt (mx + 4) 6 (qm_u φ1 10 3 (Int32.ofNat (t + 1))) (Int32.ofNat br) (Int32.ofNat lt)) fun y6 φ5 => qg (qm_bz y6) (some (y6, φ5))) (fun ψ1 => mg_S F (mm + 4) 2 ψ1 5 (Int32.ofNat ns)) (mg_S F (mm + 4)) (fun φ1 e1 => ?_) (ys_mst hM h211 q24 5 (by decide) _ (fun _ => by rw [h30, e3, ya_lt (by omega) (by omega)]; exact ql rfl)) (fun φ1 ψ1 S1 h0 h3 => ?_)
        · rw [l84 φ1 e1, if_neg (by rw [z]; decide), if_neg (by rw [z]; decide), if_neg (by rw [z]; decide), if_neg (by rw [z]; decide)]
        · exact grd 5 φ1 ψ1 _ _ (ys_bLet (nR := nR) hF hK (ql rfl) (fun τ => hbrc (lt + 1) _ (by have := ql rfl; omega)) S1 q24 hsz hcd z h0)
end Y15
