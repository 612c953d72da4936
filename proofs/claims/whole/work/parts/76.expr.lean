/-! SEMANTICS: expressions, both parsers alike -/
def ye_wU (op : Nat) : Nat := 5 * (6 - op) + 1
section Y6
variable {F nR n cnt t sz cd w k op len : Nat} {b : Nat → Int32} {T φ ψ φ0 ψ0 : qm_F} {L : List (Nat × Nat)} {t0 : Nat}
theorem ye_L165 (g g' : Nat → qm_F → Int32 → Int32 → Option (Int32 × qm_F)) (ψ : qm_F) (s : Int32) : mo_unary_L165 F g ψ s = mo_unary_L165 F g' ψ s := rfl
/-- a sign that is opened, what stands behind it -/
theorem ye_unary (hF : 2000 ≤ F) (hK : yk_TK F n cnt b T) (hop : op ≤ 6) (gx gx2 gm gm2 : Nat → qm_F → Int32 → Int32 → Option (Int32 × qm_F))
    (hg : ∀ φ (x : Int32), gx 2 φ x 0 = pa_part F nR n cnt gx2 φ x) (hg2 : ∀ ψ, gm 2 ψ 0 0 = mo_e F gm2 ψ)
    (ihU : op < 6 → ∀ (φ ψ : qm_F) (t sz cd : Nat), ye_pre n cnt b T L (op + 1) φ ψ t sz cd → ye_cl n cnt b T (ye_wU (op + 1)) (op + 1) φ ψ t sz cd (gx 1 φ (Int32.ofNat (op + 1)) 0) (gm 0 ψ 0 0))
    (ihE : op < 6 → ∀ (φ ψ : qm_F) (t sz cd : Nat), ye_pre n cnt b T L (op + 1) φ ψ t sz cd → ye_cl n cnt b T (5 + ye_wU (op + 1)) (op + 1) φ ψ t sz cd (gx2 0 φ 0 (Int32.ofNat (op + 1))) (gm2 1 ψ 0 0))
    (h : ye_pre n cnt b T L op φ ψ t sz cd) : ye_cl n cnt b T (ye_wU op) op φ ψ t sz cd (pa_unary F nR n cnt gx φ (Int32.ofNat op)) (mo_unary F gm ψ) := by
  have hcn := yk_cn hK
  have h' := h
  obtain ⟨hX, hM, hop0, hN, ht, hsz, hcd⟩ := h'
  have ac0 := ye_refl hX hM hop0 ht
  have e6 : (6 : Int32) = Int32.ofNat 6 := rfl
  -- ~ or -
  have hsign : ∀ c : Int32, T 0 t = c → (c = 126 ∨ c = 45) → ye_cl n cnt b T (ye_wU op) op φ ψ t sz cd (pa_unary_L23 F nR n cnt gx φ (Int32.ofNat op) c) (mo_unary_L32 F gm ψ (if c = 126 then 3 else 2)) := by
    intro c hc hcc
    have hne : T 0 t ≠ 0 ∧ T 0 t ≠ 1 ∧ T 0 t ≠ 97 := by rw [hc]; rcases hcc with rfl | rfl <;> decide
    unfold pa_unary_L23 mo_unary_L32
    rcases ye_opens hK ac0 hop hne.1 hne.2.1 hne.2.2 with ⟨q, ψ1, e1, ac1⟩ | ⟨q, ψ1, e1, hb⟩
    · rw [e1, e6, if_pos (by rw [ya_lt (by omega) (by omega)]; omega), hX.1, ya_add1, ya_add1]
      simp only [yb2]
      rw [if_neg (by decide)]
      rcases ihU q _ ψ1 (t + 1) sz cd (ac1.pre hN (by omega) (by omega)) with ⟨φ2, ψ2, t2, len, e2, e3, l1, l2, ac2⟩ | ⟨φ2, ψ2, e2, e3, hb⟩
      · rw [e2, e3]
        simp only [yb2]
        have ac3 := ye_trans (W := ye_wU op) ac1 ac2 (by omega) (by unfold ye_wU; omega)
        rw [ac2.2.2.2.2.1, ya_sub1 (by omega), Nat.add_sub_cancel]
        have ac4 := ye_setop ac3 op
        have ht2 := ac2.2.1
        have em := fun (o cc : Int32) (hm : ye_cm cc 0 o 0) (hh : cc = 2 ∨ cc = 3) => ye_emit (F := F) (o := o) (a := 0) (c := cc) (v := 0) (k' := 0 + 1) (W := ye_wU op) ac4 (by omega) (by omega) (by omega) hm (Nat.le_refl _) (fun h _ => by
          unfold ye_h1
          rw [if_neg (by rcases hh with rfl | rfl <;> decide), if_pos hh, if_pos (by omega)]) nR
        rcases hcc with rfl | rfl
        · obtain ⟨φ3, ψ3, e4, e5, ac5⟩ := em 5 3 (Or.inr (Or.inr (Or.inr (Or.inl ⟨rfl, rfl⟩)))) (Or.inr rfl)
          rw [if_pos (by decide), if_neg (by decide), if_pos (by decide), if_pos (by decide)]
          unfold pa_unary_L72
          rw [e4, e5]
          exact Or.inl ⟨φ3, ψ3, t2, 0 + len + 1, rfl, rfl, by omega, by omega, ac5⟩
        · obtain ⟨φ3, ψ3, e4, e5, ac5⟩ := em 4 2 (Or.inr (Or.inr (Or.inl ⟨rfl, rfl⟩))) (Or.inl rfl)
          rw [if_pos (by decide), if_pos (by decide), if_pos (by decide), if_neg (by decide)]
          unfold pa_unary_L72
          rw [e4, e5]
          exact Or.inl ⟨φ3, ψ3, t2, 0 + len + 1, rfl, rfl, by omega, by omega, ac5⟩
      · rw [e2, e3]
        simp only [yb2]
        rw [if_neg (by decide), if_neg (by decide)]
        exact Or.inr ⟨φ2, ψ2, rfl, rfl, ye_bad.trans ac1 hb⟩
    · rw [e1, e6, if_neg (by rw [ya_lt (by omega) (by omega)]; omega), yx_fail hX ht (by omega) (by omega)]
      simp only [yb2, yg0, yg1]
      rw [if_pos (by first | trivial | rfl | decide)]
      exact Or.inr ⟨_, ψ1, rfl, rfl, hb⟩
  unfold pa_unary mo_unary
  rw [yx_kind hX ht (by omega) (by omega), ym_sign hK hM ht 126 (by decide), ym_sign hK hM ht 45 (by decide), ym_sign hK hM ht 40 (by decide)]
  simp only [yb1]
  by_cases q126 : T 0 t = 126
  · rw [if_pos q126, if_pos q126, if_pos (by decide)]
    unfold mo_unary_L18
    rw [ym_sign hK hM ht 126 (by decide), if_pos q126]
    simp only [yb1]
    rw [if_neg (by decide), q126]
    exact hsign 126 q126 (Or.inl rfl)
  · rw [if_neg q126, if_neg q126]
    by_cases q45 : T 0 t = 45
    · rw [if_pos q45, if_neg (by decide), if_pos q45, if_neg (by decide)]
      unfold mo_unary_L18
      rw [ym_sign hK hM ht 126 (by decide), if_neg q126]
      simp only [yb1]
      rw [if_pos (by decide), q45]
      exact hsign 45 q45 (Or.inr rfl)
    · rw [if_neg q45, if_neg (by decide), if_neg q45, if_pos (by decide), hg]
      unfold pa_part
      rw [yx_kind hX ht (by omega) (by omega)]
      simp only [yb1]
      by_cases q40 : T 0 t = 40
      · rw [if_pos q40, if_pos q40]
        rcases ye_opens hK ac0 hop (by rw [q40]; decide) (by rw [q40]; decide) (by rw [q40]; decide) with ⟨q, ψ1, e1, ac1⟩ | ⟨q, ψ1, e1, hb⟩
        · rw [e1, e6, if_pos (by rw [ya_lt (by omega) (by omega)]; omega), if_neg (by decide), hX.1, ya_add1, ya_add1]
          simp only [yb2]
          rw [if_neg (by decide), hg2]
          unfold mo_e
          rcases ihE q _ ψ1 (t + 1) sz cd (ac1.pre hN (by omega) (by omega)) with ⟨φ2, ψ2, t2, len, e2, e3, l1, l2, ac2⟩ | ⟨φ2, ψ2, e2, e3, hb⟩
          · rw [e2, e3]
            simp only [yb2, yg01, yg1]
            rw [if_neg (by decide), if_neg (by decide)]
            have ac3 := ye_trans (W := ye_wU op) ac1 ac2 (by omega) (by unfold ye_wU; omega)
            rcases ye_takes (nR := nR) hK ac3 41 (by decide) with ⟨-, ψ3, e4, e5, ac4⟩ | ⟨-, φ3, ψ3, e4, e5, hb⟩
            · rw [e4, e5]
              simp only [yb2, yg01, yg1]
              rw [if_neg (by decide), if_pos (by decide), ac4.2.2.2.2.1, ya_sub1 (by omega), Nat.add_sub_cancel]
              exact Or.inl ⟨_, _, t2 + 1, 0 + len, rfl, rfl, by omega, by omega, ye_setop ac4 op⟩
            · rw [e4, e5]
              simp only [yb2, yg0, yg1]
              rw [if_pos (by first | trivial | rfl | decide), if_neg (by decide)]
              exact Or.inr ⟨_, _, rfl, rfl, hb⟩
          · rw [e2, e3]
            simp only [yb2, yg0, yg1]
            rw [if_pos (by first | trivial | rfl | decide), if_pos (by first | trivial | rfl | decide)]
            exact Or.inr ⟨φ2, ψ2, rfl, rfl, ye_bad.trans ac1 hb⟩
        · rw [e1, e6, if_neg (by rw [ya_lt (by omega) (by omega)]; omega), if_neg (by decide), yx_fail hX ht (by omega) (by omega)]
          simp only [yb2, yg0, yg1]
          rw [if_pos (by first | trivial | rfl | decide)]
          exact Or.inr ⟨_, ψ1, rfl, rfl, hb⟩
      · rw [if_neg q40, if_neg q40]
        by_cases q48 : T 0 t = 48
        · have e7 : ψ 0 7 = T 3 t := hM.2.1.2.2.2.1 q48
          have e66 : ψ 0 6 = 2 := by rw [hM.2.1.2.2.1, q48]; decide
          rw [if_pos q48, if_pos (by decide), if_neg (by rw [e66]; decide), yx_number hX ht (by omega) (by omega), e7]
          simp only [yb1]
          have hnx := yk_next hK ht (by rw [q48]; decide) (by rw [q48]; decide)
          obtain ⟨φ1, ψ1, e1, e2, ac1⟩ := ye_emit (F := F) (o := 1) (a := T 3 t) (c := 0) (v := T 3 t) (k' := 1) (W := ye_wU op) ac0 (by omega) (by omega) (by omega) (Or.inl ⟨rfl, rfl, rfl⟩) (by omega) (fun h hh => by
            unfold ye_h1
            unfold ye_wU at hh
            rw [if_pos (Or.inl rfl), if_pos (by omega)]) nR
          rw [Nat.add_zero] at e1
          rw [e1, e2]
          simp only [yb1, yb2]
          obtain ⟨ψ2, e4, ac3⟩ := ye_next' hK ac1 (by rw [q48]; decide) (by rw [q48]; decide) (fun z => by rw [q48] at z; exact absurd z (by decide))
          rw [e4, ac1.2.2.1.1, ya_add1]
          simp only [yb1, yg01, yg1]
          exact Or.inl ⟨_, _, t + 1, 0 + 1, rfl, rfl, by omega, by omega, ac3⟩
        · rw [if_neg q48]
          have e66 : ¬ ψ 0 6 = 2 := by
            rw [hM.2.1.2.2.1]
            unfold yk_cls
            repeat' split
            all_goals first | decide | contradiction
          by_cases q97 : T 0 t = 97
          · rw [if_pos q97, if_pos (by decide), if_pos e66, ym_isName hK hM ht, if_pos q97]
            simp only [yb1]
            rw [ym_must1 hM]
            simp only [yb2]
            rw [if_neg (by decide)]
            have := ye_name (nR := nR) hF hK h q97
            rcases this with ⟨φ', ψ', t', len, e1, e2, l1, l2, ac⟩ | ⟨φ', ψ', e1, e2, hb⟩
            · rw [e1]
              simp only [yb2, yg01, yg1]
              exact Or.inl ⟨φ', ψ', t', len, rfl, e2, l1, l2, ye_wk ac (by unfold ye_wU; omega)⟩
            · rw [e1]
              simp only [yb2, yg0, yg1]
              exact Or.inr ⟨φ', ψ', rfl, e2, hb⟩
          · rw [if_neg q97, if_pos (by decide), if_pos e66, ym_isName hK hM ht, if_neg q97, yx_fail hX ht (by omega) (by omega)]
            simp only [yb1, yb2, yg0, yg1]
            rw [ym_must0 hM (by decide)]
            simp only [yb2]
            rw [if_pos (by first | trivial | rfl | decide)]
            exact Or.inr ⟨_, _, rfl, rfl, ye_fault ac0 (by decide)⟩
/-- expressions: all levels, what is open -/
theorem ye_all (hF : 2000 ≤ F) (hK : yk_TK F n cnt b T) : ∀ M : Nat,
    (∀ l op, l ≤ 5 → op ≤ 6 → (6 - op) * 8 + (5 - l) + 3 ≤ M → ∀ mx mm, (6 - op) * 8 + (5 - l) + 3 ≤ mx → (6 - op) * 8 + (5 - l) + 3 ≤ mm → ∀ (φ ψ : qm_F) (t sz cd : Nat), ye_pre n cnt b T L op φ ψ t sz cd → ye_cl n cnt b T (5 - l + ye_wU op) op φ ψ t sz cd (cg_E F nR n cnt mx 0 φ (Int32.ofNat l) (Int32.ofNat op)) (mg_E F mm 1 ψ (Int32.ofNat l) 0)) ∧
    (∀ op, op ≤ 6 → (6 - op) * 8 + 2 ≤ M → ∀ mx mm, (6 - op) * 8 + 2 ≤ mx → (6 - op) * 8 + 2 ≤ mm → ∀ (φ ψ : qm_F) (t sz cd : Nat), ye_pre n cnt b T L op φ ψ t sz cd → ye_cl n cnt b T (ye_wU op) op φ ψ t sz cd (cg_E F nR n cnt mx 1 φ (Int32.ofNat op) 0) (mg_E F mm 0 ψ 0 0)) := by
  have hcn := yk_cn hK
  intro M
  induction M with
  | zero => exact ⟨fun l op _ _ h => by omega, fun op _ h => by omega⟩
  | succ M ih =>
    obtain ⟨ih1, ih2⟩ := ih
    refine ⟨fun l op hl hop hm mx mm h1 h2 φ ψ t sz cd hp => ?_, fun op hop hm mx mm h1 h2 φ ψ t sz cd hp => ?_⟩
    · obtain ⟨mx, rfl⟩ : ∃ z, mx = z + 1 := ⟨mx - 1, by omega⟩
      obtain ⟨mm, rfl⟩ : ∃ z, mm = z + 1 := ⟨mm - 1, by omega⟩
      unfold cg_E mg_E
      rw [if_pos (by first | trivial | rfl | decide), if_neg (by decide), if_pos (by first | trivial | rfl | decide)]
      unfold pa_expression mo_sides
      have e5 : (5 : Int32) = Int32.ofNat 5 := rfl
      have e2' : (2 : Int32) = Int32.ofNat 2 := rfl
      by_cases q5 : l = 5
      · subst q5
        rw [if_neg (by decide), if_neg (by decide)]
        rcases ih2 op hop (by omega) mx mm (by omega) (by omega) φ ψ t sz cd hp with ⟨φ', ψ', t', len, e1, e2, l1, l2, ac⟩ | ⟨φ', ψ', e1, e2, hb⟩
        · rw [e1, e2]
          simp only [yb2, yg01, yg1]
          exact Or.inl ⟨φ', ψ', t', len, rfl, rfl, l1, l2, ye_wk ac (by omega)⟩
        · rw [e1, e2]
          simp only [yb2, yg0, yg1]
          exact Or.inr ⟨φ', ψ', rfl, rfl, hb⟩
      · rw [if_pos (by rw [e5, ya_lt (by omega) (by omega)]; omega), if_pos (by rw [e5, ya_eq (by omega) (by omega)]; omega), ya_add1]
        have ihl := fun (φ ψ : qm_F) (t sz cd : Nat) hp => ih1 (l + 1) op (by omega) hop (by omega) mx mm (by omega) (by omega) φ ψ t sz cd hp
        rcases ihl φ ψ t sz cd hp with ⟨φ', ψ', t', len, e1, e2, l1, l2, ac⟩ | ⟨φ', ψ', e1, e2, hb⟩
        · rw [e1, e2]
          simp only [yb2]
          rw [if_pos (by decide)]
          have lp := ye_loop (nR := nR) (oi := Int32.ofNat op) (L := L) hK (l := l) (w1 := 5 - (l + 1) + ye_wU op) (by omega) (fun φ ψ t sz cd a1 a2 a3 a4 a5 a6 a7 => ihl φ ψ t sz cd ⟨a1, a2, a3, a4, a5, a6, a7⟩) hp.2.2.2.1 hp.2.2.2.2.2.1 hp.2.2.2.2.2.2 F F φ' ψ' t' len
          have ew : 5 - (l + 1) + ye_wU op + 1 = 5 - l + ye_wU op := by omega
          rw [ew] at lp
          have ac' := ye_wk (W := 5 - l + ye_wU op) ac (by omega)
          by_cases q2 : l = 2
          · subst q2
            rw [if_neg (by decide), if_pos (by decide)]
            exact lp 0 1 0 1 (by omega) (by omega) l1 l2 ac' (Or.inr ⟨rfl, rfl, Or.inl ⟨rfl, rfl⟩⟩)
          · rw [if_pos (by rw [e2', ya_eq (by omega) (by omega)]; omega), if_pos (by decide)]
            have ec : to_count F nR n φ' = some (Int32.ofNat cnt) := by
              unfold to_count
              rw [ac.2.2.1.2.1]
            rw [ec]
            simp only [yb1]
            exact lp 0 (Int32.ofNat cnt) 0 1 (by omega) (by omega) l1 l2 ac' (Or.inl ⟨q2, rfl, rfl, by omega, rfl⟩)
        · rw [e1, e2]
          simp only [yb2]
          rw [if_neg (by decide), if_neg (by decide)]
          exact Or.inr ⟨φ', ψ', rfl, rfl, hb⟩
    · obtain ⟨mx, rfl⟩ : ∃ z, mx = z + 2 := ⟨mx - 2, by omega⟩
      obtain ⟨mm, rfl⟩ : ∃ z, mm = z + 2 := ⟨mm - 2, by omega⟩
      have u1 : cg_E F nR n cnt (mx + 2) 1 φ (Int32.ofNat op) 0 = pa_unary F nR n cnt (cg_E F nR n cnt (mx + 1)) φ (Int32.ofNat op) := rfl
      have u2 : mg_E F (mm + 2) 0 ψ 0 0 = mo_unary F (mg_E F (mm + 1)) ψ := rfl
      rw [u1, u2]
      exact ye_unary (L := L) hF hK hop (cg_E F nR n cnt (mx + 1)) (cg_E F nR n cnt mx) (mg_E F (mm + 1)) (mg_E F mm) (fun φ x => rfl) (fun ψ => rfl)
        (fun q φ ψ t sz cd hp => ih2 (op + 1) (by omega) (by omega) (mx + 1) (mm + 1) (by omega) (by omega) φ ψ t sz cd hp)
        (fun q φ ψ t sz cd hp => ih1 0 (op + 1) (by omega) (by omega) (by omega) mx mm (by omega) (by omega) φ ψ t sz cd hp) hp
/-- an E -/
theorem ye_E (hF : 2000 ≤ F) (hK : yk_TK F n cnt b T) {mx mm : Nat} (h1 : 60 ≤ mx) (h2 : 60 ≤ mm) (h : ye_pre n cnt b T L 0 φ ψ t sz cd) : ye_cl n cnt b T 36 0 φ ψ t sz cd (cg_E F nR n cnt mx 0 φ 0 0) (mg_E F mm 1 ψ 0 0) :=
  (ye_all hF hK 60).1 0 0 (by omega) (by omega) (by omega) mx mm (by omega) (by omega) φ ψ t sz cd h
end Y6
