/-! SEMANTICS: the bodies of if and let -/
section Y13
variable {F nR n cnt t sz cd ns br lt s p : Nat} {b : Nat → Int32} {T φ ψ : qm_F} {L : List (Nat × Nat)}
theorem ys_had (h : ψ 0 13 = 1) : mo_had F ψ 4 = some (ψ 2 11) := by
  unfold mo_had
  rw [h]
  rfl
/-- if E { } else { } -/
theorem ys_bIf (hF : 2000 ≤ F) (hK : yk_TK F n cnt b T) {gx gm : Nat → qm_F → Int32 → Int32 → Option (Int32 × qm_F)} (hb : ys_brc n cnt b T (fun φ => gx 2 φ (Int32.ofNat br) (Int32.ofNat lt)) (fun ψ => gm 0 ψ 0 0) L br lt) (h : ys_S n cnt b T t (p + 1) cd (s + 1) br lt L φ ψ) (hs : s < 24) (hsz : p ≤ t) (hcd : cd ≤ t) (hk : T 0 t = 134) (h0 : ψ 6 (144 + 6 * s) = 2) :
    ys_bdy n cnt b T L br lt 2 φ ψ t p cd s (pa_ifStatement F nR n cnt gx (qm_u φ 10 3 (Int32.ofNat (t + 1))) (Int32.ofNat br) (Int32.ofNat lt)) (mo_ifHere F gm ψ (Int32.ofNat s)) := by
  have hcn := yk_cn hK
  obtain ⟨ψ1, e1, S1, f1⟩ := ys_next hK h (by rw [hk]; decide) (by rw [hk]; decide)
  have G1 := ys_Ggx h S1 (ys_xgx _) (ys_mgm f1) (fun z => by rw [hk] at z; exact absurd z (by decide)) (144 + 6 * s + 1)
  have i4 := ys_ix s 4 hs (by omega)
  unfold pa_ifStatement mo_ifHere
  rw [e1]
  simp only [yb1]
  rcases ys_E (nR := nR) hF hK S1 hs (by omega) (by omega) with ⟨φ3, ψ3, t3, len, x2, x3, l1, l2, S3, fx3, fm3, hE, mk3⟩ | ⟨φ3, ψ3, x2, x3, hbad⟩
  · have G3 := G1.trans (ys_GE S3 (by omega) fx3 fm3 mk3 (by omega)) (Nat.le_refl _)
    rw [x2, x3]
    simp only [yb2]
    rw [if_pos (by decide), if_neg (by decide)]
    have ht3 := S3.1
    obtain ⟨φ4, x4, S4, ex4, r1, r2, r3⟩ := ys_emit (nR := nR) hK S3 (by omega) 8 0 0
    have G4 := G3.trans (ys_Gem S4 ex4 (144 + 6 * s + 1)) (Nat.le_refl _)
    rw [x4]
    simp only [yb2]
    rcases hb φ4 ψ3 t3 (p + 1 + len + 1) (cd + len) (s + 1) S4 (by omega) (by omega) (by omega) with ⟨φ5, ψ5, t5, sz5, cd5, ns5, x5, x6, G5, l3, l4, l5, l6, l7, l8, hY⟩ | ⟨φ5, ψ5, x5, x6, hbad⟩
    · dsimp only at x5 x6
      rw [x5, x6]
      simp only [yb2]
      rw [if_pos (by decide), if_pos (by decide)]
      have S5 := G5.1
      have ht5 := S5.1
      have hz5 := G5.2.2.2.2.1
      have hc5 := G5.2.2.2.2.2.1
      have S6 := ys_w6 S5 (144 + 6 * s + 4) (Int32.ofNat ns5)
      have G6 := (G4.trans G5 (by omega)).trans (ys_Gw6 S5 (si := 144 + 6 * s + 1) (i := 144 + 6 * s + 4) (by omega) (Int32.ofNat ns5)) (Nat.le_refl _)
      rw [ys_at S5.2.2.1.2.2.2.1, ys_had S5.2.2.1.2.2.2.1, S5.2.2.2.2.2.1]
      simp only [yb1]
      rw [show (4 : Int32) = Int32.ofNat 4 from rfl, i4.1, i4.2]
      simp only [yg1]
      rw [ym_own hK S6.2.2.1 ht5, yx_kind S5.2.1 ht5 (by omega) (by omega)]
      simp only [yb1]
      have hE5 : ∀ φ' : qm_F, (∀ i, i < p + 1 + len + 1 → φ' 20 i = φ4 20 i ∧ φ' 21 i = φ4 21 i) → ∀ ψ' : qm_F, ∀ M, cd + len ≤ M → (∀ i, i < cd + len → ψ' 7 (800 + i) = ψ3 7 (800 + i) ∧ ψ' 8 (800 + i) = ψ3 8 (800 + i)) → yl_E (ys_Z φ' ψ') M (ys_T ψ3 s 2) (ys_T ψ3 s 3) (p + 1) (p + 1 + len) := by
        intro φ' hφ ψ' M hM hψ
        refine hE.cg hM hψ (fun i z1 z2 => ⟨?_, ?_⟩)
        · show φ' 20 i = φ3 20 i
          rw [(hφ i (by omega)).1, ex4 20 i (by omega) (by omega)]
        · show φ' 21 i = φ3 21 i
          rw [(hφ i (by omega)).2, ex4 21 i (by omega) (by omega)]
      have st5 : ∀ j, j < 144 + 6 * (s + 1) → j ≠ 144 + 6 * s + 4 → (qm_u ψ5 6 (144 + 6 * s + 4) (Int32.ofNat ns5)) 6 j = ψ3 6 j := fun j hj hne => by
        rw [ys_u6 _ _ _ 6 j (by omega), G5.2.2.1 6 j (by omega) (by omega) (by omega) (by omega) (by omega)]
      have s0 : ψ3 6 (144 + 6 * s + 0) = 2 := by
        rw [fm3 6 _ (by omega) (by omega) (by omega), f1 6 _ (by omega)]
        exact h0
      have e7w : (yk_own (T 0 t5) = 7 ↔ T 0 t5 = 135) := yk_own_eq (k := T 0 t5) (w := 7) (by omega)
      by_cases qe : T 0 t5 = 135
      · rw [if_neg (by simp [qe]), if_pos (e7w.mpr qe)]
        obtain ⟨ψ7, e7, S7, f7⟩ := ys_next hK S6 (by rw [qe]; decide) (by rw [qe]; decide)
        have G7 := G6.trans (ys_Ggx S6 S7 (ys_xgx _) (ys_mgm f7) (fun z => by rw [qe] at z; exact absurd z (by decide)) (144 + 6 * s + 1)) (Nat.le_refl _)
        rw [e7, S5.2.1.1, ya_add1]
        simp only [yb1]
        have ht7 := S7.1
        obtain ⟨φ8, x8, S8, ex8, u1, u2, u3⟩ := ys_emit (nR := nR) hK S7 (by omega) 7 0 0
        have G8 := G7.trans (ys_Gem S8 ex8 (144 + 6 * s + 1)) (Nat.le_refl _)
        rw [x8]
        simp only [yb2]
        have es8 : pr_size F nR n cnt φ8 = some (Int32.ofNat (sz5 + 1)) := by
          unfold pr_size
          rw [S8.2.1.2.2.2.2]
        rw [es8]
        simp only [yb1]
        obtain ⟨x9, S9⟩ := ys_aim (nR := nR) hK S8 (i := p + 1 + len) (by omega) (by omega) (Int32.ofNat (sz5 + 1))
        have G9 := ys_Gaim G8 S9 (by omega)
        rw [x9]
        simp only [yb1]
        rcases hb _ ψ7 (t5 + 1) (sz5 + 1) cd5 ns5 S9 (by omega) (by omega) (by omega) with ⟨φa, ψa, ta, sza, cda, nsa, xa1, xa2, Ga, la1, la2, la3, la4, la5, la6, hYa⟩ | ⟨φa, ψa, xa1, xa2, hbad⟩
        · dsimp only at xa1 xa2
          rw [xa1, xa2]
          simp only [yb2]
          rw [if_pos (by decide)]
          unfold pa_ifStatement_L96
          have Sa := Ga.1
          have hta := Sa.1
          have hza := Ga.2.2.2.2.1
          have hca := Ga.2.2.2.2.2.1
          have esa : pr_size F nR n cnt φa = some (Int32.ofNat sza) := by
            unfold pr_size
            rw [Sa.2.1.2.2.2.2]
          rw [esa]
          simp only [yb1, yg01, yg1]
          obtain ⟨xb, Sb⟩ := ys_aim (nR := nR) hK Sa (i := sz5) (by omega) (by omega) (Int32.ofNat sza)
          have Gb := ys_Gaim (G9.trans Ga (by omega)) Sb (by omega)
          rw [xb]
          simp only [yb1]
          have row : ∀ a j, (a = 20 ∨ a = 21 ∨ a = 22) → j < sz5 + 1 → ¬ (a = 22 ∧ j = sz5) → (qm_u φa 22 sz5 (Int32.ofNat sza)) a j = (qm_u φ8 22 (p + 1 + len) (Int32.ofNat (sz5 + 1))) a j := fun a j ha hj hne => by
            rw [ys_u22 _ _ _ a j hne, Ga.2.1 a j (by omega) (by omega) (by omega) (by omega) (by omega) (by omega)]
          have row2 : ∀ a j, (a = 20 ∨ a = 21 ∨ a = 22) → j < sz5 → ¬ (a = 22 ∧ j = p + 1 + len) → (qm_u φ8 22 (p + 1 + len) (Int32.ofNat (sz5 + 1))) a j = φ5 a j := fun a j ha hj hne => by
            rw [ys_u22 _ _ _ a j hne, ex8 a j (by omega) (by omega), ys_xgx (t5 + 1) a j (by omega)]
          have row3 : ∀ a j, (a = 20 ∨ a = 21 ∨ a = 22) → j < p + 1 + len + 1 → φ5 a j = φ4 a j := fun a j ha hj => G5.2.1 a j (by omega) (by omega) (by omega) (by omega) (by omega) (by omega)
          have sta : ∀ j, j < 144 + 6 * ns5 → ψa 6 j = (qm_u ψ5 6 (144 + 6 * s + 4) (Int32.ofNat ns5)) 6 j := fun j hj => by
            rw [Ga.2.2.1 6 j (by omega) (by omega) (by omega) (by omega) (by omega), f7 6 j (by omega)]
          have cda' : ∀ a j, (a = 7 ∨ a = 8) → j < 800 + cd5 → ψa a j = ψ5 a j := fun a j ha hj => by
            rw [Ga.2.2.1 a j (by omega) (by omega) (by omega) (by omega) (by omega), f7 a j (by omega), ys_u6 _ _ _ a j (by omega)]
          refine Or.inl ⟨_, ψa, ta, sza, cda, nsa, rfl, rfl, Gb, by omega, by omega, by omega, by omega, la5, fun S hS => Or.inr (Or.inr (Or.inl ⟨?_, l8, p + 1 + len, sz5, ns5, sz5 + 1, ?_, ?_, ?_, ?_, by omega, by omega, by omega, by omega, ?_, Or.inr ⟨?_, ?_, rfl, hza, ?_⟩⟩))⟩
          · rw [hS.1 0 (by omega)]
            show ψa 6 (144 + 6 * s + 0) = 2
            rw [sta _ (by omega), st5 _ (by omega) (by omega)]
            exact s0
          · rw [hS.1 2 (by omega), hS.1 3 (by omega)]
            have ea : ys_T ψa s 2 = ys_T ψ3 s 2 := by
              show ψa 6 _ = ψ3 6 _
              rw [sta _ (by omega), st5 _ (by omega) (by omega)]
            have eb : ys_T ψa s 3 = ys_T ψ3 s 3 := by
              show ψa 6 _ = ψ3 6 _
              rw [sta _ (by omega), st5 _ (by omega) (by omega)]
            rw [ea, eb]
            refine hE5 _ (fun i hi => ⟨?_, ?_⟩) ψa cda (by omega) (fun i hi => ⟨?_, ?_⟩)
            · rw [row 20 i (by omega) (by omega) (by omega), row2 20 i (by omega) (by omega) (by omega), row3 20 i (by omega) (by omega)]
            · rw [row 21 i (by omega) (by omega) (by omega), row2 21 i (by omega) (by omega) (by omega), row3 21 i (by omega) (by omega)]
            · rw [cda' 7 _ (by omega) (by omega), G5.2.2.1 7 _ (by omega) (by omega) (by omega) (by omega) (by omega)]
            · rw [cda' 8 _ (by omega) (by omega), G5.2.2.1 8 _ (by omega) (by omega) (by omega) (by omega) (by omega)]
          · show (qm_u φa 22 sz5 (Int32.ofNat sza)) 20 _ = _
            rw [row 20 _ (by omega) (by omega) (by omega), row2 20 _ (by omega) (by omega) (by omega), row3 20 _ (by omega) (by omega)]
            exact r1
          · show (qm_u φa 22 sz5 (Int32.ofNat sza)) 22 _ = _
            rw [row 22 _ (by omega) (by omega) (by omega), ys_u22s]
          · rw [hS.2.1 rfl]
            show ψa 6 (144 + 6 * s + 4) = _
            rw [sta _ (by omega), ys_u6s]
          · refine hY.cg Ga.2.2.2.2.2.1 (fun i hi => ⟨cda' 7 _ (by omega) (by omega), cda' 8 _ (by omega) (by omega)⟩) (fun i z1 z2 => ⟨?_, ?_, ?_⟩) (fun s1 z1 z2 k hk => ?_)
            · show (qm_u φa 22 sz5 (Int32.ofNat sza)) 20 _ = _
              rw [row 20 _ (by omega) (by omega) (by omega), row2 20 _ (by omega) (by omega) (by omega)]
              rfl
            · show (qm_u φa 22 sz5 (Int32.ofNat sza)) 21 _ = _
              rw [row 21 _ (by omega) (by omega) (by omega), row2 21 _ (by omega) (by omega) (by omega)]
              rfl
            · show (qm_u φa 22 sz5 (Int32.ofNat sza)) 22 _ = _
              rw [row 22 _ (by omega) (by omega) (by omega), row2 22 _ (by omega) (by omega) (by omega)]
              rfl
            · rw [hS.2.2 s1 (by omega) (by omega) k hk]
              show ψa 6 _ = ψ5 6 _
              rw [sta _ (by omega), ys_u6 _ _ _ 6 _ (by omega)]
          · show (qm_u φa 22 sz5 (Int32.ofNat sza)) 20 _ = _
            rw [row 20 _ (by omega) (by omega) (by omega), ys_u22 _ _ _ 20 _ (by omega)]
            exact u1
          · show (qm_u φa 22 sz5 (Int32.ofNat sza)) 22 _ = _
            rw [ys_u22s]
          · exact hYa.cg (Nat.le_refl _) (fun i _ => ⟨rfl, rfl⟩) (fun i z1 z2 => ⟨rfl, rfl, ys_u22 _ _ _ 22 i (by omega)⟩) (fun s1 z1 z2 k hk => hS.2.2 s1 (by omega) z2 k hk)
        · dsimp only at xa1 xa2
          rw [xa1, xa2]
          simp only [yb2, yg0, yg1]
          rw [if_neg (by decide)]
          exact Or.inr ⟨φa, ψa, rfl, rfl, hbad.pre G9.2.1.lo (G9.2.2.1.cf (by omega))⟩
      · rw [if_pos qe, if_neg (fun z => qe (e7w.mp z))]
        unfold pa_ifStatement_L96
        have es5 : pr_size F nR n cnt φ5 = some (Int32.ofNat sz5) := by
          unfold pr_size
          rw [S5.2.1.2.2.2.2]
        rw [es5]
        simp only [yb1]
        obtain ⟨x7, S7⟩ := ys_aim (nR := nR) hK S6 (i := p + 1 + len) (by omega) (by omega) (Int32.ofNat sz5)
        have G7 := ys_Gaim G6 S7 (by omega)
        rw [x7]
        simp only [yb1]
        have row : ∀ a j, (a = 20 ∨ a = 21 ∨ a = 22) → j < p + 1 + len + 1 → ¬ (a = 22 ∧ j = p + 1 + len) → (qm_u φ5 22 (p + 1 + len) (Int32.ofNat sz5)) a j = φ4 a j := fun a j ha hj hne => by
          rw [ys_u22 _ _ _ a j hne, G5.2.1 a j (by omega) (by omega) (by omega) (by omega) (by omega) (by omega)]
        refine Or.inl ⟨_, _, t5, sz5, cd5, ns5, rfl, rfl, G7, by omega, by omega, by omega, by omega, l7, fun S hS => Or.inr (Or.inr (Or.inl ⟨?_, l8, p + 1 + len, sz5, ns5, sz5, ?_, ?_, ?_, ?_, by omega, by omega, by omega, by omega, ?_, Or.inl ⟨rfl, rfl, rfl⟩⟩))⟩
        · rw [hS.1 0 (by omega)]
          show (qm_u ψ5 6 (144 + 6 * s + 4) (Int32.ofNat ns5)) 6 (144 + 6 * s + 0) = 2
          rw [st5 _ (by omega) (by omega)]
          exact s0
        · rw [hS.1 2 (by omega), hS.1 3 (by omega)]
          have ea : ys_T (qm_u ψ5 6 (144 + 6 * s + 4) (Int32.ofNat ns5)) s 2 = ys_T ψ3 s 2 := st5 _ (by omega) (by omega)
          have eb : ys_T (qm_u ψ5 6 (144 + 6 * s + 4) (Int32.ofNat ns5)) s 3 = ys_T ψ3 s 3 := st5 _ (by omega) (by omega)
          rw [ea, eb]
          refine hE5 _ (fun i hi => ⟨?_, ?_⟩) _ cd5 (by omega) (fun i hi => ⟨?_, ?_⟩)
          · rw [row 20 i (by omega) (by omega) (by omega)]
          · rw [row 21 i (by omega) (by omega) (by omega)]
          · rw [ys_u6 _ _ _ 7 _ (by omega), G5.2.2.1 7 _ (by omega) (by omega) (by omega) (by omega) (by omega)]
          · rw [ys_u6 _ _ _ 8 _ (by omega), G5.2.2.1 8 _ (by omega) (by omega) (by omega) (by omega) (by omega)]
        · show (qm_u φ5 22 (p + 1 + len) (Int32.ofNat sz5)) 20 _ = _
          rw [row 20 _ (by omega) (by omega) (by omega)]
          exact r1
        · show (qm_u φ5 22 (p + 1 + len) (Int32.ofNat sz5)) 22 _ = _
          rw [ys_u22s]
        · rw [hS.2.1 rfl]
          show (qm_u ψ5 6 (144 + 6 * s + 4) (Int32.ofNat ns5)) 6 (144 + 6 * s + 4) = _
          rw [ys_u6s]
        · refine hY.cg (Nat.le_refl _) (fun i _ => ⟨rfl, rfl⟩) (fun i z1 z2 => ⟨rfl, rfl, ys_u22 _ _ _ 22 i (by omega)⟩) (fun s1 z1 z2 k hk => ?_)
          rw [hS.2.2 s1 (by omega) z2 k hk]
          exact ys_u6 _ _ _ 6 _ (by omega)
    · dsimp only at x5 x6
      rw [x5, x6]
      simp only [yb2]
      rw [if_neg (by decide), if_neg (by decide)]
      exact Or.inr ⟨φ5, ψ5, rfl, rfl, hbad.pre G4.2.1.lo (G4.2.2.1.cf (by omega))⟩
  · rw [x2, x3]
    simp only [yb2]
    rw [if_neg (by decide), if_pos (by first | trivial | decide)]
    exact Or.inr ⟨φ3, ψ3, rfl, rfl, hbad.pre G1.2.1.lo (G1.2.2.1.cf (by omega))⟩
end Y13
