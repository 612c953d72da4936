/-! SEMANTICS: the bodies of while, if, let -/
section Y12
variable {F nR n cnt t sz cd ns br lt s p : Nat} {b : Nat → Int32} {T φ ψ : qm_F} {L : List (Nat × Nat)}
theorem ys_aim (hK : yk_TK F n cnt b T) (h : ys_S n cnt b T t sz cd ns br lt L φ ψ) {i : Nat} (hi : i < sz) (hs : sz ≤ cnt) (v : Int32) : pr_aim F nR n cnt φ (Int32.ofNat i) v = some (qm_u φ 22 i v) ∧ ys_S n cnt b T t sz cd ns br lt L (qm_u φ 22 i v) ψ := by
  have hcn := yk_cn hK
  constructor
  · unfold pr_aim
    rw [h.2.1.2.2.2.2, if_neg (ya_lt0 (by omega)), if_neg (by rw [ya_le (by omega) (by omega)]; omega), ya_in (by omega) (by omega), ya_nn (by omega)]
    rfl
  · obtain ⟨a1, ⟨b1, b2, b3, b4, b5⟩, a3, a4, a5, a6⟩ := h
    exact ⟨a1, ⟨b1, b2, b3, b4, b5⟩, a3, a4.fr (fun a j ha => by rcases ha with rfl | rfl | rfl <;> rfl) (fun _ _ => rfl), a5, a6⟩
theorem ys_u22 (φ : qm_F) (i : Nat) (v : Int32) : ∀ a j, ¬ (a = 22 ∧ j = i) → qm_u φ 22 i v a j = φ a j := by
  intro a j h
  unfold qm_u
  repeat' split
  all_goals first | rfl | omega
theorem ys_u22s (φ : qm_F) (i : Nat) (v : Int32) : qm_u φ 22 i v 22 i = v := by simp [qm_u]
theorem ys_Gaim {i : Nat} {v : Int32} {φ0 ψ0 : qm_F} {t0 sz0 cd0 si : Nat} (h : ys_G n cnt b T L br lt φ0 ψ0 t0 sz0 cd0 si φ ψ t sz cd ns) (h' : ys_S n cnt b T t sz cd ns br lt L (qm_u φ 22 i v) ψ) (hi : sz0 ≤ i) : ys_G n cnt b T L br lt φ0 ψ0 t0 sz0 cd0 si (qm_u φ 22 i v) ψ t sz cd ns := by
  obtain ⟨a1, a2, a3, a4, a5, a6, a7⟩ := h
  refine ⟨h', fun a j x1 x2 x3 x4 x5 x6 => ?_, a3, a4, a5, a6, fun s h1 h2 => (a7 s h1 h2).fr rfl rfl (fun _ _ => rfl)⟩
  rw [ys_u22 _ _ _ a j (by omega)]
  exact a2 a j x1 x2 x3 x4 x5 x6
theorem ys_GE {φ' ψ' : qm_F} {t' len : Nat} (S1 : ys_S n cnt b T t' (sz + len) (cd + len) ns br lt L φ' ψ') (ht : t ≤ t') (fx1 : ye_fx t sz φ φ') (fm1 : ∀ a j, ¬ (a = 0 ∧ (4 ≤ j ∧ j ≤ 10 ∨ j = 21 ∨ j = 28)) → ¬ ((a = 7 ∨ a = 8) ∧ 800 + cd ≤ j) → ¬ (a = 6 ∧ (j = 144 + 6 * s + 2 ∨ j = 144 + 6 * s + 3)) → ψ' a j = ψ a j) (mk1 : ∀ s1, t ≤ s1 → s1 < t' → ye_mk T ψ φ' s1) {si : Nat} (hsi : si ≤ 144 + 6 * s + 2) : ys_G n cnt b T L br lt φ ψ t sz cd si φ' ψ' t' (sz + len) (cd + len) ns :=
  ⟨S1, fx1.ys _, fun a j y1 y2 y3 y4 y5 => fm1 a j (by omega) (by omega) (by omega), ht, by omega, by omega, mk1⟩
/-- while E most NUMBER { } -/
theorem ys_bWhile (hF : 2000 ≤ F) (hK : yk_TK F n cnt b T) {gx gm : Nat → qm_F → Int32 → Int32 → Option (Int32 × qm_F)} (hb : ys_brc n cnt b T (fun φ => gx 2 φ (Int32.ofNat br) (Int32.ofNat lt)) (fun ψ => gm 0 ψ 0 0) L br lt) (h : ys_S n cnt b T t (p + 1) cd (s + 1) br lt L φ ψ) (hs : s < 24) (hsz : p ≤ t) (hcd : cd ≤ t) (hk : T 0 t = 137) (h0 : ψ 6 (144 + 6 * s) = 4) :
    ys_bdy n cnt b T L br lt 4 φ ψ t p cd s (pa_whileStatement F nR n cnt gx (qm_u φ 10 3 (Int32.ofNat (t + 1))) (Int32.ofNat br) (Int32.ofNat lt)) (mo_whileHere F gm ψ (Int32.ofNat s)) := by
  have hcn := yk_cn hK
  obtain ⟨ψ1, e1, S1, f1⟩ := ys_next hK h (by rw [hk]; decide) (by rw [hk]; decide)
  have G1 := ys_Ggx h S1 (ys_xgx _) (ys_mgm f1) (fun z => by rw [hk] at z; exact absurd z (by decide)) (144 + 6 * s + 1)
  have i1 := ys_ix s 1 hs (by omega)
  have ht1 := S1.1
  obtain ⟨φ2, x1, S2, ex2, r1, r2, r3⟩ := ys_emit (nR := nR) hK S1 (by omega) 11 (Int32.ofNat br) 0
  have G2 := G1.trans (ys_Gem S2 ex2 (144 + 6 * s + 1)) (Nat.le_refl _)
  unfold pa_whileStatement mo_whileHere mo_numbered
  rw [e1, x1]
  simp only [yb1, yb2]
  rcases ys_E (nR := nR) hF hK S2 hs (by omega) (by omega) with ⟨φ3, ψ3, t3, len, x2, x3, l1, l2, S3, fx3, fm3, hE, mk3⟩ | ⟨φ3, ψ3, x2, x3, hbad⟩
  · have G3 := G2.trans (ys_GE S3 (by omega) fx3 fm3 mk3 (by omega)) (Nat.le_refl _)
    rw [x2, x3]
    simp only [yb2]
    rw [if_neg (by decide), if_neg (by decide)]
    rcases ys_own (nR := nR) hK S3 10 (by omega) with ⟨q, φ4, ψ4, x4, x5, S4, gx4, gm4⟩ | ⟨q, φ4, ψ4, x4, x5, hbad⟩
    · rw [show (138 : Int32) = Int32.ofNat (128 + 10) from rfl, show (10 : Int32) = Int32.ofNat 10 from rfl, x4, x5]
      simp only [yb2]
      rw [if_neg (by decide), if_neg (by decide)]
      have G4 := G3.trans (ys_Ggx S3 S4 gx4 gm4 (fun z => by rw [q] at z; exact absurd z (by decide)) (144 + 6 * s + 1)) (Nat.le_refl _)
      rcases ys_num (nR := nR) hK S4 1 9 (by omega) (by omega) with ⟨k, φ5, ψ5, q48, e3, k1, k2, x6, x7, S5, gx5, gm5, v1, v2⟩ | ⟨φ5, ψ5, x6, x7, hbad⟩
      · rw [show (1 : Int32) = Int32.ofNat 1 from rfl, show (9 : Int32) = Int32.ofNat 9 from rfl, x6, x7]
        simp only [yb2]
        rw [if_pos (by decide), if_pos (by decide), ys_at S5.2.2.1.2.2.2.1]
        simp only [yb1]
        rw [i1.1, i1.2, v1, v2]
        simp only [yg1, yb2]
        rw [if_neg (by decide)]
        have G5 := G4.trans (ys_Ggx S4 S5 gx5 gm5 (fun z => by rw [q48] at z; exact absurd z (by decide)) (144 + 6 * s + 1)) (Nat.le_refl _)
        have ht5 := S5.1
        have S6 := ys_w6 S5 (144 + 6 * s + 1) (Int32.ofNat k)
        have G6 := G5.trans (ys_Gw6 S5 (si := 144 + 6 * s + 1) (Nat.le_refl _) (Int32.ofNat k)) (Nat.le_refl _)
        obtain ⟨x8, S7⟩ := ys_aim (nR := nR) hK S6 (i := p + 1) (by omega) (by omega) (Int32.ofNat k)
        have G7 := ys_Gaim G6 S7 (by omega)
        rw [x8]
        simp only [yb1]
        obtain ⟨φ8, x9, S8, ex8, u1, u2, u3⟩ := ys_emit (nR := nR) hK S7 (by omega) 12 (Int32.ofNat br) 0
        have G8 := G7.trans (ys_Gem S8 ex8 (144 + 6 * s + 1)) (Nat.le_refl _)
        rw [x9]
        simp only [yb2]
        obtain ⟨φ9, x10, S9, ex9, w1, w2, w3⟩ := ys_emit (nR := nR) hK S8 (by omega) 6 0 0
        have G9 := G8.trans (ys_Gem S9 ex9 (144 + 6 * s + 1)) (Nat.le_refl _)
        rw [x10]
        simp only [yb2]
        rcases hb φ9 _ (t3 + 1 + 1) (p + 1 + 1 + len + 1 + 1) (cd + len) (s + 1) S9 (by omega) (by omega) (by omega) with ⟨φa, ψa, ta, sza, cda, nsa, xa1, xa2, Ga, la1, la2, la3, la4, la5, la6, hY⟩ | ⟨φa, ψa, xa1, xa2, hbad⟩
        · dsimp only at xa1 xa2
          rw [xa1, xa2]
          simp only [yb2]
          rw [if_pos (by decide), if_neg (by decide)]
          have hta := Ga.1.1
          rw [show Int32.ofNat (p + 1) + Int32.ofNat 1 = Int32.ofNat (p + 1 + 1) from ya_add _ _]
          obtain ⟨φb, xb, Sb, exb, y1, y2, y3⟩ := ys_emit (nR := nR) hK Ga.1 (by omega) 7 0 (Int32.ofNat (p + 1 + 1))
          have Gb := (G9.trans Ga (by omega)).trans (ys_Gem Sb exb (144 + 6 * s + 1)) (Nat.le_refl _)
          rw [xb]
          simp only [yb2]
          have hza := Ga.2.2.2.2.1
          have es : pr_size F nR n cnt φb = some (Int32.ofNat (sza + 1)) := by
            unfold pr_size
            rw [Sb.2.1.2.2.2.2]
          rw [es]
          simp only [yb1]
          obtain ⟨xc, Sc⟩ := ys_aim (nR := nR) hK Sb (i := p + 1 + 1 + len) (by omega) (by omega) (Int32.ofNat (sza + 1))
          have Gc := ys_Gaim Gb Sc (by omega)
          rw [xc]
          simp only [yb1]
          have row : ∀ a j, (a = 20 ∨ a = 21 ∨ a = 22) → j < p + 1 + 1 + len + 1 + 1 → ¬ (a = 22 ∧ j = p + 1 + 1 + len) → (qm_u φb 22 (p + 1 + 1 + len) (Int32.ofNat (sza + 1))) a j = φ9 a j := fun a j ha hj hne => by
            rw [ys_u22 _ _ _ a j hne, exb a j (by omega) (by omega), Ga.2.1 a j (by omega) (by omega) (by omega) (by omega) (by omega) (by omega)]
          have row2 : ∀ a j, (a = 20 ∨ a = 21 ∨ a = 22) → j < p + 1 + 1 + len → ¬ (a = 22 ∧ j = p + 1) → φ9 a j = φ3 a j := fun a j ha hj hne => by
            rw [ex9 a j (by omega) (by omega), ex8 a j (by omega) (by omega), ys_u22 _ _ _ a j hne, gx5 a j (by omega), gx4 a j (by omega)]
          have row3 : ∀ a j, (a = 20 ∨ a = 21 ∨ a = 22) → j = p + 1 → φ3 a j = φ2 a j := fun a j ha hj => fx3 a j (by omega) (by omega) (by omega) (by omega)
          have st : ∀ j, j < 144 + 6 * (s + 1) → j ≠ 144 + 6 * s + 1 → ψa 6 j = ψ3 6 j := fun j hj hne => by
            rw [Ga.2.2.1 6 j (by omega) (by omega) (by omega) (by omega) (by omega), ys_u6 _ _ _ 6 j (by omega), gm5 6 j (by omega), gm4 6 j (by omega)]
          refine Or.inl ⟨_, ψa, ta, sza + 1, cda, nsa, rfl, rfl, Gc, by omega, by omega, by omega, by omega, la5, fun S hS => Or.inr (Or.inr (Or.inr (Or.inr (Or.inl ⟨?_, p + 1 + 1 + len, sza, k, k1, k2, ?_, la6, ?_, ?_, ?_, ?_, ?_, ?_, ?_, ?_, hza, ?_, ?_, ?_, rfl⟩))))⟩
          · rw [hS.1 0 (by omega)]
            show ψa 6 (144 + 6 * s + 0) = 4
            rw [st _ (by omega) (by omega), fm3 6 _ (by omega) (by omega) (by omega), f1 6 _ (by omega)]
            exact h0
          · rw [hS.1 1 (by omega)]
            show ψa 6 (144 + 6 * s + 1) = _
            rw [Ga.2.2.1 6 _ (by omega) (by omega) (by omega) (by omega) (by omega), ys_u6s]
          · show (qm_u φb 22 (p + 1 + 1 + len) (Int32.ofNat (sza + 1))) 20 (p + 1) = 11
            rw [row 20 _ (by omega) (by omega) (by omega), row2 20 _ (by omega) (by omega) (by omega), row3 20 _ (by omega) rfl]
            exact r1
          · show (qm_u φb 22 (p + 1 + 1 + len) (Int32.ofNat (sza + 1))) 21 (p + 1) = _
            rw [row 21 _ (by omega) (by omega) (by omega), row2 21 _ (by omega) (by omega) (by omega), row3 21 _ (by omega) rfl]
            exact r2
          · show (qm_u φb 22 (p + 1 + 1 + len) (Int32.ofNat (sza + 1))) 22 (p + 1) = _
            rw [row 22 _ (by omega) (by omega) (by omega), ex9 22 _ (by omega) (by omega), ex8 22 _ (by omega) (by omega), ys_u22s]
          · rw [hS.1 2 (by omega), hS.1 3 (by omega)]
            have ea : ys_T ψa s 2 = ys_T ψ3 s 2 := st _ (by omega) (by omega)
            have eb : ys_T ψa s 3 = ys_T ψ3 s 3 := st _ (by omega) (by omega)
            rw [ea, eb]
            refine hE.cg Ga.2.2.2.2.2.1 (fun i hi => ⟨?_, ?_⟩) (fun i z1 z2 => ⟨?_, ?_⟩)
            · show ψa 7 _ = ψ3 7 _
              rw [Ga.2.2.1 7 _ (by omega) (by omega) (by omega) (by omega) (by omega), ys_u6 _ _ _ 7 _ (by omega), gm5 7 _ (by omega), gm4 7 _ (by omega)]
            · show ψa 8 _ = ψ3 8 _
              rw [Ga.2.2.1 8 _ (by omega) (by omega) (by omega) (by omega) (by omega), ys_u6 _ _ _ 8 _ (by omega), gm5 8 _ (by omega), gm4 8 _ (by omega)]
            · show (qm_u φb 22 (p + 1 + 1 + len) (Int32.ofNat (sza + 1))) 20 i = _
              rw [row 20 _ (by omega) (by omega) (by omega), row2 20 _ (by omega) (by omega) (by omega)]
              rfl
            · show (qm_u φb 22 (p + 1 + 1 + len) (Int32.ofNat (sza + 1))) 21 i = _
              rw [row 21 _ (by omega) (by omega) (by omega), row2 21 _ (by omega) (by omega) (by omega)]
              rfl
          · show (qm_u φb 22 (p + 1 + 1 + len) (Int32.ofNat (sza + 1))) 20 _ = _
            rw [row 20 _ (by omega) (by omega) (by omega), ex9 20 _ (by omega) (by omega)]
            exact u1
          · show (qm_u φb 22 (p + 1 + 1 + len) (Int32.ofNat (sza + 1))) 21 _ = _
            rw [row 21 _ (by omega) (by omega) (by omega), ex9 21 _ (by omega) (by omega)]
            exact u2
          · show (qm_u φb 22 (p + 1 + 1 + len) (Int32.ofNat (sza + 1))) 22 _ = _
            rw [ys_u22s]
          · show (qm_u φb 22 (p + 1 + 1 + len) (Int32.ofNat (sza + 1))) 20 _ = _
            rw [row 20 _ (by omega) (by omega) (by omega)]
            exact w1
          · refine hY.cg (Nat.le_refl _) (fun i _ => ⟨rfl, rfl⟩) (fun i z1 z2 => ?_) (fun s1 z1 z2 k hk => hS.2.2 s1 (by omega) z2 k hk)
            have := exb 22 i (by omega) (by omega)
            exact ⟨exb 20 i (by omega) (by omega), exb 21 i (by omega) (by omega), (ys_u22 _ _ _ 22 i (by omega)).trans this⟩
          · exact y1
          · show (qm_u φb 22 (p + 1 + 1 + len) (Int32.ofNat (sza + 1))) 22 _ = _
            rw [ys_u22 _ _ _ 22 _ (by omega)]
            exact y3
        · dsimp only at xa1 xa2
          rw [xa1, xa2]
          simp only [yb2]
          rw [if_neg (by decide), if_pos (by first | trivial | decide)]
          exact Or.inr ⟨φa, ψa, rfl, rfl, hbad.pre G9.2.1.lo (G9.2.2.1.cf (by omega))⟩
      · rw [show (1 : Int32) = Int32.ofNat 1 from rfl, show (9 : Int32) = Int32.ofNat 9 from rfl, x6, x7]
        simp only [yb2]
        rw [if_neg (by decide), if_neg (by decide)]
        simp only [yb2]
        rw [if_pos (by first | trivial | decide)]
        exact Or.inr ⟨φ5, ψ5, rfl, rfl, hbad.pre G4.2.1.lo (G4.2.2.1.cf (by omega))⟩
    · rw [show (138 : Int32) = Int32.ofNat (128 + 10) from rfl, show (10 : Int32) = Int32.ofNat 10 from rfl, x4, x5]
      simp only [yb2]
      rw [if_pos (by first | trivial | decide), if_pos (by first | trivial | decide)]
      exact Or.inr ⟨φ4, ψ4, rfl, rfl, hbad.pre G3.2.1.lo (G3.2.2.1.cf (by omega))⟩
  · rw [x2, x3]
    simp only [yb2]
    rw [if_pos (by first | trivial | decide), if_pos (by first | trivial | decide)]
    exact Or.inr ⟨φ3, ψ3, rfl, rfl, hbad.pre G2.2.1.lo (G2.2.2.1.cf (by omega))⟩
end Y12
