/-! REFERENCES after a sketch -/
theorem qE_u {P : Nat → Nat → Nat → Prop} {f : Nat → Nat → Option Nat} (h : ∀ a j r, f a j = some r → P a j r) {a i m : Nat} (hm : P a i m) : ∀ b j r, qm_u f a i (some m) b j = some r → P b j r := by
  intro b j r e
  unfold qm_u at e
  split at e
  · split at e
    · have := Option.some.inj e
      subst this
      rename_i e1 e2
      rw [e1, e2]
      exact hm
    · exact h _ _ _ e
  · exact h _ _ _ e
theorem qE_z {P : Nat → Nat → Nat → Prop} {f : Nat → Nat → Option Nat} (h : ∀ a j r, f a j = some r → P a j r) {a : Nat} : ∀ b j r, qm_z f a none b j = some r → P b j r := by
  intro b j r e
  unfold qm_z at e
  split at e
  · cases e
  · exact h _ _ _ e
def qE_p0 (a j r : Nat) : Prop := r < 34 ∨ (a = 0 ∧ j = 2)
theorem qE_sk (sr : Option Nat) : ∀ a j r, c4_R (sk_R sr) a j = some r → (r < 4 ∧ ¬ r = 3) ∨ (a = 0 ∧ (j = 1 ∨ j = 2)) := by
  intro a j r h
  rcases qE_tab (T := c4_T) (B := 3) (by decide) (f := sk_R sr) h with z | z
  · exact Or.inl ⟨by omega, by omega⟩
  · unfold sk_R at z
    split at z
    · split at z
      · exact Or.inr ⟨by assumption, Or.inl (by assumption)⟩
      · split at z
        · exact Or.inr ⟨by assumption, Or.inr (by assumption)⟩
        · cases z
    · cases z
theorem qE_01 (sr : Option Nat) : c4_R (sk_R sr) 0 1 = some 3 := rfl
theorem qE_r4 (sr : Option Nat) : ∀ a j r, sk_r4 sr a j = some r → (r < 25 ∧ ¬ r = 3) ∨ (a = 0 ∧ (j = 1 ∨ j = 2)) := by
  have h0 : ∀ a j r, c4_R (sk_R sr) a j = some r → (r < 25 ∧ ¬ r = 3) ∨ (a = 0 ∧ (j = 1 ∨ j = 2)) := fun a j r h => (qE_sk sr a j r h).elim (fun z => Or.inl ⟨by omega, z.2⟩) Or.inr
  unfold sk_r4 sk_r3 sk_r2 sk_r1
  repeat (first | exact h0 | refine qE_u (P := fun a j r => (r < 25 ∧ ¬ r = 3) ∨ (a = 0 ∧ (j = 1 ∨ j = 2))) ?_ (by omega) | refine qE_z (P := fun a j r => (r < 25 ∧ ¬ r = 3) ∨ (a = 0 ∧ (j = 1 ∨ j = 2))) ?_)
theorem qE_sk' (sr : Option Nat) : ∀ a j r, c4_R (sk_R sr) a j = some r → r < 34 ∨ (a = 0 ∧ j = 2) := by
  intro a j r h
  rcases qE_sk sr a j r h with z | ⟨z1, z2 | z2⟩
  · exact Or.inl (by omega)
  · subst z1 z2
    rw [qE_01] at h
    have := Option.some.inj h
    exact Or.inl (by omega)
  · exact Or.inr ⟨z1, z2⟩
theorem qE_r70 (sr : Option Nat) : ∀ a j r, sk_r7_0 sr a j = some r → r < 34 := by
  have h0 := qE_sk' sr
  obtain ⟨g, hg⟩ : ∃ g, g = (qm_u (qm_z (qm_u (qm_u (qm_u (qm_z (qm_u (qm_z (qm_z (sk_r5_0 sr) 30 none) 31 none) 30 2 (some 31)) 32 none) 30 3 (some 32)) 30 0 (some 14)) 30 1 (some 25)) 33 none) 30 4 (some 33)) := ⟨_, rfl⟩
  have hP : ∀ a j r, g a j = some r → r < 34 ∨ (a = 0 ∧ j = 2) := by
    rw [hg]
    unfold sk_r5_0 sk_r4 sk_r3 sk_r2 sk_r1
    repeat (first | exact h0 | refine qE_u (P := fun a j r => r < 34 ∨ (a = 0 ∧ j = 2)) ?_ (by omega) | refine qE_z (P := fun a j r => r < 34 ∨ (a = 0 ∧ j = 2)) ?_)
  intro a j r h
  have e : sk_r7_0 sr = qm_u g 0 2 (some 30) := by rw [hg]; rfl
  rw [e] at h
  by_cases z : a = 0 ∧ j = 2
  · obtain ⟨rfl, rfl⟩ := z
    have : qm_u g 0 2 (some 30) 0 2 = some 30 := by simp [qm_u]
    rw [this] at h
    have := Option.some.inj h
    omega
  · have : qm_u g 0 2 (some 30) a j = g a j := by
      unfold qm_u
      split
      · split
        · exact absurd ⟨by assumption, by assumption⟩ z
        · rfl
      · rfl
    rw [this] at h
    exact (hP a j r h).elim id (fun y => absurd y z)
theorem qE_id70 (sr : Option Nat) : c4_R (ct_R (cw_R (cr_R (cs_R (sk_r7_0 sr))))) = sk_r7_0 sr := by
  rw [cs_id (f := sk_r7_0 sr) (by unfold cs_L; (repeat refine List.forall_mem_cons.mpr ⟨rfl, ?_⟩); exact fun _ h => absurd h List.not_mem_nil)]
  rw [cr_id (f := sk_r7_0 sr) (by unfold cr_L; (repeat refine List.forall_mem_cons.mpr ⟨rfl, ?_⟩); exact fun _ h => absurd h List.not_mem_nil)]
  rw [cw_id (f := sk_r7_0 sr) (by unfold cw_L; (repeat refine List.forall_mem_cons.mpr ⟨rfl, ?_⟩); exact fun _ h => absurd h List.not_mem_nil)]
  rw [ct_id (f := sk_r7_0 sr) (by unfold ct_L; (repeat refine List.forall_mem_cons.mpr ⟨rfl, ?_⟩); exact fun _ h => absurd h List.not_mem_nil)]
  rw [c4_id (f := sk_r7_0 sr) (by unfold c4_L; (repeat refine List.forall_mem_cons.mpr ⟨rfl, ?_⟩); exact fun _ h => absurd h List.not_mem_nil)]
theorem qE_w70 (nR nN nT gg : Nat) (sr : Option Nat) (φ : qm_F) : (([(0, 8), (0, 5), (1, 800), (2, nR), (0, 6), (1, nN), (1, nN + 1), (1, nN + 1), (1, nN + 1), (1, nN + 1), (0, 2), (0, 1), (1, 15), (1, 15), (0, 3), (1, 3), (1, 5), (1, 5), (1, 0), (1, 0), (1, nT), (1, nT), (1, nT), (1, gg), (1, gg), (0, 7), (0, 0), (1, 15), (1, 4), (1, 64), (0, 4), (1, 5), (1, 40), (3, gg)], φ, sk_r7_0 sr) : qm_H) = cs nR nN nT gg [] (sk_r7_0 sr) φ := by
  show (_, φ, sk_r7_0 sr) = (_, φ, c4_R (ct_R (cw_R (cr_R (cs_R (sk_r7_0 sr))))))
  rw [qE_id70]
  rfl
theorem qE_02 (sr sr' : Option Nat) {a j : Nat} (h : ¬ (a = 0 ∧ j = 2)) : c4_R (sk_R sr) a j = c4_R (sk_R sr') a j := by
  unfold c4_R
  split
  · unfold sk_R
    split
    · split
      · rfl
      · split
        · exact absurd ⟨by assumption, by assumption⟩ h
        · rfl
    · rfl
  · rfl
theorem qE_lo70 (sr : Option Nat) {a : Nat} (ha : a < 4) (j : Nat) : sk_r7_0 sr a j = c4_R (sk_R (some 30)) a j := by
  by_cases z : a = 0 ∧ j = 2
  · obtain ⟨rfl, rfl⟩ := z
    rfl
  · rw [← qE_02 sr (some 30) z]
    unfold sk_r7_0 sk_r5_0 sk_r4 sk_r3 sk_r2 sk_r1
    have u02 : ∀ f : Nat → Nat → Option Nat, qm_u f 0 2 (some 30) a j = f a j := by
      intro f
      unfold qm_u
      split
      · split
        · exact absurd ⟨by assumption, by assumption⟩ z
        · rfl
      · rfl
    rw [u02]
    simp only [qm_z, qm_u, show ¬ a = 4 by omega, show ¬ a = 5 by omega, show ¬ a = 6 by omega, show ¬ a = 7 by omega, show ¬ a = 8 by omega, show ¬ a = 9 by omega, show ¬ a = 10 by omega, show ¬ a = 11 by omega, show ¬ a = 12 by omega, show ¬ a = 13 by omega, show ¬ a = 14 by omega, show ¬ a = 15 by omega, show ¬ a = 16 by omega, show ¬ a = 17 by omega, show ¬ a = 18 by omega, show ¬ a = 19 by omega, show ¬ a = 20 by omega, show ¬ a = 21 by omega, show ¬ a = 22 by omega, show ¬ a = 23 by omega, show ¬ a = 24 by omega, show ¬ a = 25 by omega, show ¬ a = 26 by omega, show ¬ a = 27 by omega, show ¬ a = 28 by omega, show ¬ a = 29 by omega, show ¬ a = 30 by omega, show ¬ a = 31 by omega, show ¬ a = 32 by omega, show ¬ a = 33 by omega, if_false]
theorem qE_c70 (sr : Option Nat) : qE_clo (sk_r7_0 sr) := by
  refine ⟨fun a j r _ h => ?_, fun a j ha => ?_⟩
  · rw [qE_id70] at h
    exact qE_r70 sr a j r h
  · rw [qE_id70]
    exact qE_lo70 sr ha j
/-- the new row is cell 25: as the search numbers it, cell 3 -/
def qE_t (r : Nat) : Nat := if r = 25 then 3 else if r < 25 then r else r - 1
def qE_ρ1 (sr : Option Nat) (a j : Nat) : Option Nat := (sk_r7_1 sr (sk_s a) j).map qE_t
theorem qE_r71 (sr : Option Nat) : ∀ a j r, sk_r7_1 sr a j = some r → r < 35 ∧ ¬ r = 3 := by
  have h0 : ∀ a j r, c4_R (sk_R sr) a j = some r → (r < 35 ∧ ¬ r = 3) ∨ (a = 0 ∧ (j = 1 ∨ j = 2)) := fun a j r h => (qE_sk sr a j r h).elim (fun z => Or.inl ⟨by omega, z.2⟩) Or.inr
  have hP : ∀ a j r, sk_r7_1 sr a j = some r → (r < 35 ∧ ¬ r = 3) ∨ (a = 0 ∧ (j = 1 ∨ j = 2)) := by
    unfold sk_r7_1 sk_r5_1 sk_r4 sk_r3 sk_r2 sk_r1
    repeat (first | exact h0 | refine qE_u (P := fun a j r => (r < 35 ∧ ¬ r = 3) ∨ (a = 0 ∧ (j = 1 ∨ j = 2))) ?_ (by omega) | refine qE_z (P := fun a j r => (r < 35 ∧ ¬ r = 3) ∨ (a = 0 ∧ (j = 1 ∨ j = 2))) ?_)
  intro a j r h
  rcases hP a j r h with z | ⟨rfl, rfl | rfl⟩
  · exact z
  · have e : sk_r7_1 sr 0 1 = some 25 := rfl
    rw [e] at h
    have := Option.some.inj h
    omega
  · have e : sk_r7_1 sr 0 2 = some 31 := rfl
    rw [e] at h
    have := Option.some.inj h
    omega
theorem qE_id71 (sr : Option Nat) : c4_R (ct_R (cw_R (cr_R (cs_R (qE_ρ1 sr))))) = qE_ρ1 sr := by
  rw [cs_id (f := qE_ρ1 sr) (by unfold cs_L; (repeat refine List.forall_mem_cons.mpr ⟨rfl, ?_⟩); exact fun _ h => absurd h List.not_mem_nil)]
  rw [cr_id (f := qE_ρ1 sr) (by unfold cr_L; (repeat refine List.forall_mem_cons.mpr ⟨rfl, ?_⟩); exact fun _ h => absurd h List.not_mem_nil)]
  rw [cw_id (f := qE_ρ1 sr) (by unfold cw_L; (repeat refine List.forall_mem_cons.mpr ⟨rfl, ?_⟩); exact fun _ h => absurd h List.not_mem_nil)]
  rw [ct_id (f := qE_ρ1 sr) (by unfold ct_L; (repeat refine List.forall_mem_cons.mpr ⟨rfl, ?_⟩); exact fun _ h => absurd h List.not_mem_nil)]
  rw [c4_id (f := qE_ρ1 sr) (by unfold c4_L; (repeat refine List.forall_mem_cons.mpr ⟨rfl, ?_⟩); exact fun _ h => absurd h List.not_mem_nil)]
theorem qE_lo71 (sr : Option Nat) {a : Nat} (ha : a < 4) (j : Nat) : qE_ρ1 sr a j = c4_R (sk_R (some 30)) a j := by
  unfold qE_ρ1
  by_cases z3 : a = 3
  · subst z3
    have e : sk_r7_1 sr (sk_s 3) j = none := by
      show sk_r7_1 sr 25 j = none
      unfold sk_r7_1 sk_r5_1
      simp [qm_z, qm_u]
    rw [e]
    rfl
  · have es : sk_s a = a := by unfold sk_s; rw [if_neg z3, if_pos (by omega)]
    rw [es]
    by_cases z2 : a = 0 ∧ j = 2
    · obtain ⟨rfl, rfl⟩ := z2
      rfl
    · by_cases z1 : a = 0 ∧ j = 1
      · obtain ⟨rfl, rfl⟩ := z1
        rfl
      · have e : sk_r7_1 sr a j = c4_R (sk_R sr) a j := by
          have u01 : ∀ (f : Nat → Nat → Option Nat), qm_u f 0 1 (some 25) a j = f a j := by
            intro f
            unfold qm_u
            split
            · split
              · exact absurd ⟨by assumption, by assumption⟩ z1
              · rfl
            · rfl
          have u02 : ∀ (f : Nat → Nat → Option Nat), qm_u f 0 2 (some 31) a j = f a j := by
            intro f
            unfold qm_u
            split
            · split
              · exact absurd ⟨by assumption, by assumption⟩ z2
              · rfl
            · rfl
          have zz : ∀ (f : Nat → Nat → Option Nat) (b : Nat), 4 ≤ b → qm_z f b none a j = f a j := fun f b hb => by unfold qm_z; rw [if_neg (by omega)]
          have uu : ∀ (f : Nat → Nat → Option Nat) (b i : Nat) (x : Option Nat), 4 ≤ b → qm_u f b i x a j = f a j := fun f b i x hb => by unfold qm_u; rw [if_neg (by omega)]
          have e4 : sk_r4 sr a j = c4_R (sk_R sr) a j := by
            unfold sk_r4 sk_r3 sk_r2 sk_r1
            simp only [qm_z, qm_u, show ¬ a = 4 by omega, show ¬ a = 5 by omega, show ¬ a = 6 by omega, show ¬ a = 7 by omega, show ¬ a = 8 by omega, show ¬ a = 9 by omega, show ¬ a = 10 by omega, show ¬ a = 11 by omega, show ¬ a = 12 by omega, show ¬ a = 13 by omega, show ¬ a = 14 by omega, show ¬ a = 15 by omega, show ¬ a = 16 by omega, show ¬ a = 17 by omega, show ¬ a = 18 by omega, show ¬ a = 19 by omega, show ¬ a = 20 by omega, show ¬ a = 21 by omega, show ¬ a = 22 by omega, show ¬ a = 23 by omega, show ¬ a = 24 by omega, if_false]
          unfold sk_r7_1 sk_r5_1
          rw [u02]
          repeat (first | rw [uu _ _ _ _ (by omega)] | rw [zz _ _ (by omega)] | rw [u01])
          exact e4
        rw [e, qE_02 sr (some 30) z2]
        cases hr : c4_R (sk_R (some 30)) a j with
        | none => rfl
        | some r =>
          rcases qE_sk (some 30) a j r hr with y | ⟨y1, y2 | y2⟩
          · show some (qE_t r) = some r
            unfold qE_t
            rw [if_neg (by omega), if_pos (by omega)]
          · exact absurd ⟨y1, y2⟩ z1
          · exact absurd ⟨y1, y2⟩ z2
theorem qE_c71 (sr : Option Nat) : qE_clo (qE_ρ1 sr) := by
  refine ⟨fun a j r _ h => ?_, fun a j ha => ?_⟩
  · rw [qE_id71] at h
    unfold qE_ρ1 at h
    cases hr : sk_r7_1 sr (sk_s a) j with
    | none => rw [hr] at h; cases h
    | some x =>
      rw [hr] at h
      have e : qE_t x = r := Option.some.inj h
      have := qE_r71 sr _ _ _ hr
      unfold qE_t at e
      split at e
      · omega
      · split at e <;> omega
  · rw [qE_id71]
    exact qE_lo71 sr ha j
theorem qE_st {r : Nat} (h : r < 35) (h3 : ¬ r = 3) : sk_s (qE_t r) = r := by
  unfold qE_t sk_s
  repeat' split
  all_goals omega
/-- the first four cells stay -/
theorem qE_lo3 (nR nN nT : Nat) (sr : Option Nat) (φ : qm_F) {a : Nat} (ha : a < 4) (j : Nat) : (cw nR nN nT [] (sk_r3 sr) φ).2.2 a j = c4_R (sk_R sr) a j := by
  have e1 : sk_r3 sr a j = c4_R (sk_R sr) a j := by
    unfold sk_r3 sk_r2 sk_r1
    simp only [qm_z, qm_u, show ¬ a = 4 by omega, show ¬ a = 5 by omega, show ¬ a = 6 by omega, show ¬ a = 7 by omega, show ¬ a = 8 by omega, show ¬ a = 9 by omega, show ¬ a = 10 by omega, show ¬ a = 11 by omega, show ¬ a = 12 by omega, show ¬ a = 13 by omega, show ¬ a = 14 by omega, show ¬ a = 15 by omega, show ¬ a = 16 by omega, show ¬ a = 17 by omega, show ¬ a = 18 by omega, show ¬ a = 19 by omega, show ¬ a = 20 by omega, show ¬ a = 21 by omega, show ¬ a = 22 by omega, if_false]
  show c4_R (ct_R (cw_R (sk_r3 sr))) a j = _
  have t1 : ∀ f : Nat → Nat → Option Nat, cw_R f a j = f a j := by
    intro f
    unfold cw_R
    have : cw_T.getD a [] = [] := by rcases (by omega : a = 0 ∨ a = 1 ∨ a = 2 ∨ a = 3) with rfl | rfl | rfl | rfl <;> rfl
    rw [this]
    rfl
  have t2 : ∀ f : Nat → Nat → Option Nat, ct_R f a j = f a j := by
    intro f
    unfold ct_R
    have : ct_T.getD a [] = [] := by rcases (by omega : a = 0 ∨ a = 1 ∨ a = 2 ∨ a = 3) with rfl | rfl | rfl | rfl <;> rfl
    rw [this]
    rfl
  have e2 : ct_R (cw_R (sk_r3 sr)) a j = c4_R (sk_R sr) a j := by rw [t2, t1, e1]
  have t3 : ∀ f g : Nat → Nat → Option Nat, f a j = c4_R g a j → c4_R f a j = c4_R g a j := by
    intro f g hfg
    unfold c4_R at hfg ⊢
    split
    · rename_i hm
      rw [hm] at hfg
      exact hfg
    · rfl
  exact t3 _ _ e2
theorem qE_c0R : c0_R = sk_R none := by
  funext a i
  unfold c0_R sk_R
  split
  · split
    · rfl
    · split <;> rfl
  · rfl
