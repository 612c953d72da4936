/-! SEMANTICS: set, sharpest, kinds, needed -/
section S8
variable {F nR nN nT gg nI u nK o s tn : Nat} {φ0 ψ0 φ ψ : qm_F} {Vf : Nat → Nat → Nat → Nat} {Hb : List Nat} {pn : Nat → Int32} {kp rk : Nat → Nat} {cur : Int32}
theorem sx_fill (hF : nR + 1 ≤ F) (hn : nR < 2147483648) (φ : qm_F) : ∃ φ', ja_fillRow F nR nN nT gg φ 0 = some φ' ∧ (∀ a j, a ≠ 3 → φ' a j = φ a j) ∧ (∀ j, j < nR → φ' 3 j = 0) := by
  have : ∀ (n m i : Nat) (φ1 : qm_F), n + i = nR → n + 1 ≤ m → (∀ a j, a ≠ 3 → φ1 a j = φ a j) → (∀ j, j < i → φ1 3 j = 0) → ∃ φ', ja_fillRow_L5 F nR nN nT gg m φ1 0 (Int32.ofNat i) (Int32.ofNat nR) = some φ' ∧ (∀ a j, a ≠ 3 → φ' a j = φ a j) ∧ (∀ j, j < nR → φ' 3 j = 0) := by
    intro n
    induction n with
    | zero =>
      intro m i φ1 h1 h2 h3 h4
      obtain ⟨m, rfl⟩ : ∃ z, m = z + 1 := ⟨m - 1, by omega⟩
      unfold ja_fillRow_L5
      rw [if_pos (by rw [ya_le (by omega) (by omega)]; omega)]
      exact ⟨φ1, rfl, h3, fun j hj => h4 j (by omega)⟩
    | succ n ih =>
      intro m i φ1 h1 h2 h3 h4
      obtain ⟨m, rfl⟩ : ∃ z, m = z + 1 := ⟨m - 1, by omega⟩
      unfold ja_fillRow_L5
      rw [if_neg (by rw [ya_le (by omega) (by omega)]; omega), ya_in (by omega) (by omega), ya_nn (by omega), ya_add1]
      simp only [yg1]
      refine ih m (i + 1) _ (by omega) (by omega) (fun a j ha => ?_) (fun j hj => ?_)
      · rw [← h3 a j ha]; simp [qm_u, ha]
      · by_cases w : j = i
        · subst w; rw [ya_u_same]; decide
        · rw [← h4 j (by omega)]; simp [qm_u, w]
  unfold ja_fillRow
  rw [decide_eq_true hn]
  exact this nR F 0 φ (by omega) (by omega) (fun _ _ _ => rfl) (fun j hj => by omega)
theorem so_set (h : sb_D F nR nN nT gg nI φ0 ψ0 Vf Hb rk u nK o s tn pn kp cur φ ψ) (x1 x2 : Int32) : sb_do F nR nN nT gg nI φ0 ψ0 Vf Hb rk tn (sf_set F nR nN nT gg φ x1 x2) (mo_set F ψ x1 x2) := by
  have H := h.1 u h.2.2.2.1
  have hF := ss_F H
  have hKx := h.2.2.2.2.2.2.1
  have hKm := h.2.2.2.2.2.2.2.1
  have h12 : ψ 0 12 = 1 := h.2.2.2.2.2.2.2.2.2.2.2.2.1
  have q1 := h.2.2.2.2.2.2.2.2
  have h0 := h.th 0
  have hu9 := h.2.2.2.1
  have bad : ∀ x, x = some ((-1 : Int32), φ) → sb_do F nR nN nT gg nI φ0 ψ0 Vf Hb rk tn x (some (-1, qm_u ψ 0 0 0)) := fun x hx => ⟨-1, φ, _, hx, rfl, h0.x⟩
  have n10 : ¬ (1 : Int32) = 0 := by decide
  have w : ∀ x lo hi : Int32, mo_within F (qm_u ψ 0 0 0) (Int32.toInt64 x) (Int32.toInt64 lo) (Int32.toInt64 hi) = some (if x < lo then 0 else if x ≤ hi then 1 else 0) := fun x lo hi => ys_wi x lo hi
  have w1 := w x1 0 1
  have w9 := w x2 0 9
  have w2 := w x2 0 2
  rw [show Int32.toInt64 0 = 0 from by decide, show Int32.toInt64 1 = 1 from by decide] at w1
  rw [show Int32.toInt64 0 = 0 from by decide, show Int32.toInt64 9 = 9 from by decide] at w9
  rw [show Int32.toInt64 0 = 0 from by decide, show Int32.toInt64 2 = 2 from by decide] at w2
  unfold mo_set
  rw [h12, if_neg n10, w1]
  simp only [yb1]
  by_cases c1 : x1 = 0
  · subst c1
    rw [if_neg (show ¬ (0 : Int32) < 0 by decide), if_pos (show (0 : Int32) ≤ 1 by decide), if_neg n10, if_neg (show ¬ ¬ (0 : Int32) = 0 by decide)]
    unfold mo_set_L38
    rw [w9]
    simp only [yb1]
    by_cases c2 : x2 < 0
    · rw [if_pos c2, if_neg (by decide)]
      exact bad _ (by unfold sf_set; rw [if_neg (Int32.not_le.mpr c2)])
    · rw [if_neg c2]
      by_cases c3 : x2 ≤ 9
      · rw [if_pos c3, if_pos (by decide), if_neg (by decide)]
        obtain ⟨k, hk, rfl⟩ := ya_nat c2
        have k9 : k ≤ 9 := (ya_le (b := 9) hk (by omega)).mp c3
        have ex : sf_set F nR nN nT gg φ 0 (Int32.ofNat k) = se_tellUnroll F nR nN nT gg φ (Int32.ofNat k) := by
          unfold sf_set
          rw [if_pos (Int32.not_lt.mp c2), if_neg (by decide), if_neg (Int32.not_lt.mpr c3)]
          cases se_tellUnroll F nR nN nT gg φ (Int32.ofNat k) with
          | none => rfl
          | some y => rfl
        rw [ex]
        have u1 : φ 25 3 = Int32.ofNat u := h.2.2.2.2.1.2.2.1
        have u2 : (qm_u ψ 0 0 0) 0 43 = Int32.ofNat u := h0.2.2.2.2.2.1.2.1
        unfold se_tellUnroll mo_set_L61 ve_unroll
        rw [u1, u2]
        simp only [yb1]
        by_cases c4 : u = k
        · subst c4
          rw [if_pos rfl, if_neg (fun z => z rfl)]
          exact ⟨_, _, _, rfl, rfl, h0.x⟩
        · have c4' : ¬ Int32.ofNat u = Int32.ofNat k := by rw [ya_eq (by omega) (by omega)]; exact c4
          rw [if_neg (fun z => c4' z.symm), if_pos c4', if_pos (show ¬ (0 : Int32) = 1 by decide)]
          unfold ve_tellUnroll ve_forget se_beginAnew mo_seeks
          obtain ⟨φ', r1, r2, r3⟩ := sx_fill (F := F) (nR := nR) (nN := nN) (nT := nT) (gg := gg) (by omega) (by omega) (qm_u φ 25 3 (Int32.ofNat k))
          rw [r1]
          simp only [yb1]
          refine ⟨_, _, _, rfl, rfl, k, o, pn, nK, 0, kp, -1, ?_⟩
          have px : ∀ a j, a ≠ 3 → ¬ (a = 25 ∧ j = 3) → ¬ (a = 30 ∧ (j = 7 ∨ j = 8)) → (qm_u (qm_u φ' 30 7 0) 30 8 (-1)) a j = φ a j := by
            intro a j x y z
            rw [show (qm_u (qm_u φ' 30 7 0) 30 8 (-1)) a j = φ' a j from by (unfold qm_u; repeat' split) <;> first | rfl | omega, r2 a j x]
            (unfold qm_u; repeat' split) <;> first | rfl | omega
          have pm : ∀ a j, ¬ (a = 0 ∧ (j = 0 ∨ j = 43 ∨ j = 40 ∨ j = 41 ∨ j = 42)) → (qm_u (qm_u (qm_u (qm_u (qm_u ψ 0 0 0) 0 43 (Int32.ofNat k)) 0 40 0) 0 41 0) 0 42 (-1)) a j = ψ a j := by
            intro a j x
            (unfold qm_u; repeat' split) <;> first | rfl | omega
          obtain ⟨a1, a2, a3, a4, a5, a6, a7, a8, ⟨b1, b2, b3⟩, ⟨c1, c2, c3⟩, ⟨d1, d2⟩, a12, ⟨e1, ⟨t1, t2, t3⟩, e3⟩⟩ := h
          refine ⟨a1, a2, a3, k9, ⟨⟨fun a j x y => ?_, ?_⟩, ?_, ?_, fun g i x y => ?_⟩, ⟨fun a j x => ?_, by simp [qm_u], Or.inl (by simp [qm_u])⟩, ?_, ?_, ⟨?_, ?_, b3⟩, ⟨by simp [qm_u], by simp [qm_u], by omega⟩, ⟨by simp [qm_u], by simp [qm_u]⟩, Or.inl rfl, ⟨?_, ⟨?_, ?_, fun j hj => ?_⟩, e3⟩⟩
          · rw [px a j (by omega) (by omega) (by omega)]; exact a5.1.1 a j x y
          · rw [px _ _ (by omega) (by omega) (by omega)]; exact a5.1.2
          · rw [px _ _ (by omega) (by omega) (by omega)]; exact a5.2.1
          · have : (qm_u (qm_u φ' 30 7 0) 30 8 (-1)) 25 3 = φ' 25 3 := by simp [qm_u]
            rw [this, r2 25 3 (by omega)]; simp [qm_u]
          · have : (qm_u (qm_u φ' 30 7 0) 30 8 (-1)) 3 (g * nI + i) = φ' 3 (g * nI + i) := by simp [qm_u]
            rw [this]
            exact Or.inl (r3 _ (ss_cell x y hF.2.2.2.2.2.2))
          · rw [pm a j (by omega)]; exact a6.1 a j x
          · exact a7.st (px _ _ (by omega) (by omega) (by omega)) (fun a j x => px _ _ (by omega) (by omega) (by omega))
          · exact a8.st (pm _ _ (by omega)) (fun a j x => pm _ _ (by omega))
          · rw [px _ _ (by omega) (by omega) (by omega)]; exact b1
          · rw [pm _ _ (by omega)]; exact b2
          · rw [pm _ _ (by omega)]; exact e1
          · rw [px _ _ (by omega) (by omega) (by omega)]; exact t1
          · rw [pm _ _ (by omega)]; exact t2
          · rw [px _ _ (by omega) (by omega) (by omega), pm _ _ (by omega)]; exact t3 j hj
      · rw [if_neg c3, if_neg (by decide)]
        exact bad _ (by unfold sf_set sf_set_L32; rw [if_pos (Int32.not_lt.mp c2), if_neg (by decide), if_pos (Int32.not_le.mp c3), if_pos (by decide)])
  · by_cases c2 : x1 = 1
    · subst c2
      rw [if_neg (show ¬ (1 : Int32) < 0 by decide), if_pos (show (1 : Int32) ≤ 1 by decide), if_neg n10, if_pos n10]
      unfold mo_set_L38
      rw [w2]
      simp only [yb1]
      by_cases c2 : x2 < 0
      · rw [if_pos c2, if_neg (by decide)]
        exact bad _ (by unfold sf_set; rw [if_neg (Int32.not_le.mpr c2)])
      · rw [if_neg c2]
        by_cases c3 : x2 ≤ 2
        · rw [if_pos c3, if_pos n10, if_pos n10]
          obtain ⟨k, hk, rfl⟩ := ya_nat c2
          have k9 : k ≤ 2 := (ya_le (b := 2) hk (by omega)).mp c3
          have ex : sf_set F nR nN nT gg φ 1 (Int32.ofNat k) = se_tellOrder F nR nN nT gg φ (Int32.ofNat k) := by
            unfold sf_set sf_set_L32
            rw [if_pos (Int32.not_lt.mp c2), if_pos n10, if_neg (by decide), if_neg (Int32.not_lt.mpr c3)]
            rfl
          rw [ex]
          have u2 : (qm_u ψ 0 0 0) 0 44 = Int32.ofNat o := h0.2.2.2.2.2.2.2.2.1.2.1
          unfold se_tellOrder mo_set_L61
          rw [q1.1.1, u2]
          have sb : ∀ ψ', ψ' 0 44 = Int32.ofNat k → (∀ a j, ¬ (a = 0 ∧ (j = 0 ∨ j = 44)) → ψ' a j = ψ a j) → sb_D F nR nN nT gg nI φ0 ψ0 Vf Hb rk u nK k s tn pn kp cur (qm_u φ 30 6 (Int32.ofNat k)) ψ' := by
            intro ψ' z1 z2
            refine h.w (fun a j x => ?_) (fun a j x y z w => z2 a j (by omega)) (hKx.st (by simp [qm_u]) (fun a j x => ?_)) (hKm.st (z2 _ _ (by omega)) (fun a j x => z2 _ _ (by omega))) ⟨by simp [qm_u], z1, k9⟩ ⟨by simp [qm_u]; exact q1.2.1.1, by rw [z2 _ _ (by omega)]; exact q1.2.1.2.1, q1.2.1.2.2⟩ ⟨by simp [qm_u]; exact q1.2.2.1.1, by rw [z2 _ _ (by omega)]; exact q1.2.2.1.2⟩ q1.2.2.2.1
            all_goals ((unfold qm_u; repeat' split) <;> first | rfl | omega)
          by_cases c4 : o = k
          · subst c4
            rw [if_neg (fun z => z rfl)]
            exact ⟨_, _, _, rfl, rfl, (sb _ u2 (fun a j x => by (unfold qm_u; repeat' split) <;> first | rfl | omega)).x⟩
          · have c4' : ¬ Int32.ofNat o = Int32.ofNat k := by rw [ya_eq (by omega) (by omega)]; exact c4
            rw [if_pos c4', if_neg (by decide)]
            exact ⟨_, _, _, rfl, rfl, (sb _ (by simp [qm_u]) (fun a j x => by (unfold qm_u; repeat' split) <;> first | rfl | omega)).x⟩
        · rw [if_neg c3, if_neg (by decide)]
          exact bad _ (by unfold sf_set sf_set_L32; rw [if_pos (Int32.not_lt.mp c2), if_pos n10, if_neg (by decide), if_pos (Int32.not_le.mp c3)])
    · have e0 : (if x1 < 0 then (0 : Int32) else if x1 ≤ 1 then 1 else 0) = 0 := by
        by_cases z : x1 < 0
        · rw [if_pos z]
        · rw [if_neg z]
          obtain ⟨k, hk, rfl⟩ := ya_nat z
          have z0 : ¬ k = 0 := fun y => c1 (by rw [y]; rfl)
          have z1 : ¬ k = 1 := fun y => c2 (by rw [y]; rfl)
          rw [if_neg (by rw [show (1 : Int32) = Int32.ofNat 1 from rfl, ya_le (by omega) (by omega)]; omega)]
      rw [e0, if_pos rfl]
      refine bad _ ?_
      unfold sf_set sf_set_L32
      by_cases z : 0 ≤ x2
      · rw [if_pos z, if_pos c1, if_pos c2]
      · rw [if_neg z]
theorem so_sharpest (h : sb_D F nR nN nT gg nI φ0 ψ0 Vf Hb rk u nK o s tn pn kp cur φ ψ) (x1 : Int32) : sb_ask F nR nN nT gg nI φ0 ψ0 Vf Hb rk u nK o s tn pn kp cur (sf_sharpest F nR nN nT gg φ x1) (mo_sharpest F ψ x1) := by
  have H := h.1 u h.2.2.2.1
  have hF := ss_F H
  have hP := h.2.1
  have hx := h.2.2.2.2.1
  have hm := h.2.2.2.2.2.1.t 0
  have hKx := h.2.2.2.2.2.2.1
  have hKm := h.2.2.2.2.2.2.2.1.t 0
  have h12 : ψ 0 12 = 1 := h.2.2.2.2.2.2.2.2.2.2.2.2.1
  have w1 : mo_within F (qm_u ψ 0 0 0) (Int32.toInt64 x1) 0 1 = some (if x1 < 0 then 0 else if x1 ≤ 1 then 1 else 0) := by
    rw [show (0 : Int64) = Int32.toInt64 0 from by decide, show (1 : Int64) = Int32.toInt64 1 from by decide, ys_wi]
  unfold sf_sharpest mo_sharpest
  rw [h12, if_neg (c := (1 : Int32) = 0) (by decide), w1]
  simp only [yb1]
  by_cases c1 : x1 < 0
  · simp only [if_pos c1, not_true, if_false]
    exact ⟨-1, φ, _, rfl, rfl, h.th 0⟩
  · simp only [if_neg c1]
    by_cases c2 : x1 ≤ 1
    · simp only [if_pos c2]
      rw [if_pos (show ¬ (1 : Int32) = 0 by decide)]
      obtain ⟨φ1, m1, m2, m3, m4⟩ := sx_mark (b := fun _ => true) H hP hx hKx (fun _ _ => rfl)
      obtain ⟨φ2, r1, r2, r3⟩ := sx_sharp H m2 m4 (x1 := -1) (Or.inl rfl) (fun _ => true) (fun i => by simp)
      obtain ⟨f, hf⟩ : ∃ f : Nat → Nat, f = ss_ref (Vf u) gg (ss_left (Vf u) pn Hb kp nK (fun _ => true)) := ⟨_, rfl⟩
      have fle : ∀ i, f i ≤ 128 := fun i => by rw [hf]; exact Nat.le_trans (sp_cntle _ _ _) hF.2.1
      have cm : ∀ (n m i : Nat) (x : Int32) (c : Nat) (ψ1 : qm_F), n + i = nI → n + 1 ≤ m → c ≤ 128 → sm_I gg nI ψ0 (Vf u) u ψ1 → sm_f (qm_u ψ 0 0 0) ψ1 → ∃ ψ', mo_sharpest_L31 F m ψ1 x1 x (Int32.ofNat c) (Int32.ofNat i) = some (if ¬ x1 = 0 then Int32.ofNat (sp_best (fun _ => true) f i n x c).2 else (sp_best (fun _ => true) f i n x c).1, ψ') ∧ sm_I gg nI ψ0 (Vf u) u ψ' ∧ sm_f (qm_u ψ 0 0 0) ψ' := by
        intro n
        induction n with
        | zero =>
          intro m i x c ψ1 h1 h2 hc h3 h4
          obtain ⟨m, rfl⟩ : ∃ z, m = z + 1 := ⟨m - 1, by omega⟩
          refine ⟨ψ1, ?_, h3, h4⟩
          unfold mo_sharpest_L31
          rw [(sm_gi H h3.1).2]
          simp only [yb1]
          rw [if_pos (by rw [ya_le (by omega) (by omega)]; omega)]
          by_cases z : x1 = 0
          · rw [if_neg (fun y => y z), if_neg (fun y => y z)]; rfl
          · rw [if_pos z, if_pos z]; rfl
        | succ n ih =>
          intro m i x c ψ1 h1 h2 hc h3 h4
          obtain ⟨m, rfl⟩ : ∃ z, m = z + 1 := ⟨m - 1, by omega⟩
          obtain ⟨ψ3, e1, e2, e3⟩ := sm_ref H hP h3 (hKm.fr h4) (i := i) (by omega)
          rw [← hf] at e1
          unfold mo_sharpest_L31 sp_best
          rw [(sm_gi H h3.1).2]
          simp only [yb1]
          rw [if_neg (by rw [ya_le (by omega) (by omega)]; omega), e1, ya_add1]
          simp only [yb2]
          have := fle i
          by_cases w : c < f i
          · rw [if_pos (by rw [ya_lt (by omega) (by omega)]; exact w), if_pos (c := _ ∧ _) ⟨trivial, w⟩]
            exact ih m (i + 1) _ _ ψ3 (by omega) (by omega) this e2 (h4.trans e3)
          · rw [if_neg (by rw [ya_lt (by omega) (by omega)]; exact w), if_neg (c := _ ∧ _) (fun z => w z.2)]
            exact ih m (i + 1) _ _ ψ3 (by omega) (by omega) hc e2 (h4.trans e3)
      obtain ⟨ψ', s1, s2, s3⟩ := cm nI F 0 (-1) 0 _ (by omega) (by omega) (by omega) hm (sm_f0 _)
      have s1' : mo_sharpest_L31 F F (qm_u ψ 0 0 0) x1 (-1) 0 0 = _ := s1
      rw [m1, s1']
      simp only [yb1]
      rw [r1]
      simp only [yb2]
      rw [← hf]
      by_cases z : x1 = 0
      · rw [if_neg (fun y => y z), if_neg (fun y => y z)]
        exact ⟨_, φ2, ψ', rfl, rfl, h.q r2 (m3.trans r3.g) s2 ((sm_h0 ψ 0).trans s3.h)⟩
      · rw [if_pos z, if_pos z]
        rcases sp_best_r (fun _ => true) f (N := nI) nI 0 (-1) 0 (by omega) (Or.inl ⟨rfl, rfl⟩) with ⟨y1, y2⟩ | ⟨k, hk, y1, y2⟩
        · rw [y1, y2, if_neg (by decide)]
          exact ⟨_, φ2, ψ', rfl, rfl, h.q r2 (m3.trans r3.g) s2 ((sm_h0 ψ 0).trans s3.h)⟩
        · obtain ⟨φ3, e1, e2, e3⟩ := sx_ref H r2 (lf := ss_left (Vf u) pn Hb kp nK (fun _ => true)) (fun g hg => by rw [r3 33 g (by omega) (by omega)]; exact m4 g hg) hk
          rw [y1, y2, if_pos (fun z => ya_lt0 (show k < 2147483648 by omega) (by rw [z]; decide)), e1, ← hf]
          exact ⟨_, φ3, ψ', rfl, rfl, h.q e2 (m3.trans (r3.trans e3).g) s2 ((sm_h0 ψ 0).trans s3.h)⟩
    · simp only [if_neg c2, not_true, if_false]
      exact ⟨-1, φ, _, rfl, rfl, h.th 0⟩
end S8
