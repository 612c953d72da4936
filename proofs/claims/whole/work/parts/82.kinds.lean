/-! SEMANTICS: kinds, needed, free -/
section S9
variable {F nR nN nT gg nI u nK o s tn : Nat} {φ0 ψ0 φ ψ : qm_F} {Vf : Nat → Nat → Nat → Nat} {Hb : List Nat} {pn : Nat → Int32} {kp rk : Nat → Nat} {cur : Int32}
theorem sp_find_c {P Q : Nat → Bool} {r : Nat → Int32} {d : Int32} : ∀ n i, (∀ k, i ≤ k → k < i + n → P k = Q k) → sp_find P r d i n = sp_find Q r d i n := by
  intro n
  induction n with
  | zero => intro i _; rfl
  | succ n ih =>
    intro i h
    unfold sp_find
    rw [h i (Nat.le_refl _) (by omega), ih (i + 1) (fun k a b => h k (by omega) (by omega))]
theorem ss_alike_c (V : Nat → Nat → Nat) (nI g h : Nat) : ss_alike V nI g h = ss_alike V nI h g := sp_find_c _ _ (fun k _ _ => decide_eq_decide.mpr ⟨Ne.symm, Ne.symm⟩)
theorem sp_find_01 (P : Nat → Bool) : ∀ n i, (sp_find P (fun _ => 1) 0 i n = 0 ∧ sp_find P (fun _ => 0) 1 i n = 1) ∨ (sp_find P (fun _ => 1) 0 i n = 1 ∧ sp_find P (fun _ => 0) 1 i n = 0) := by
  intro n
  induction n with
  | zero => intro i; exact Or.inl ⟨rfl, rfl⟩
  | succ n ih =>
    intro i
    unfold sp_find
    by_cases q : P i = true
    · rw [if_pos q, if_pos q]; exact Or.inr ⟨rfl, rfl⟩
    · rw [if_neg q, if_neg q]; exact ih (i + 1)
theorem so_kinds (h : sb_D F nR nN nT gg nI φ0 ψ0 Vf Hb rk u nK o s tn pn kp cur φ ψ) : sb_ask F nR nN nT gg nI φ0 ψ0 Vf Hb rk u nK o s tn pn kp cur (sf_kinds F nR nN nT gg φ) (mo_kinds F ψ) := by
  have H := h.1 u h.2.2.2.1
  have hF := ss_F H
  have hP := h.2.1
  have hx := h.2.2.2.2.1
  have hm := h.2.2.2.2.2.1.t 0
  have hKx := h.2.2.2.2.2.2.1
  have hKm := h.2.2.2.2.2.2.2.1.t 0
  have h12 : ψ 0 12 = 1 := h.2.2.2.2.2.2.2.2.2.2.2.2.1
  obtain ⟨lf, hlf⟩ : ∃ lf, lf = ss_left (Vf u) pn Hb kp nK (fun _ => true) := ⟨_, rfl⟩
  obtain ⟨φ1, m1, m2, m3, m4⟩ := sx_mark (b := fun _ => true) H hP hx hKx (fun _ _ => rfl)
  rw [← hlf] at m4
  obtain ⟨Q, hQ⟩ : ∃ Q : Nat → Nat → Bool, Q = fun g h => decide (lf h ≠ 0) && decide (ss_alike (Vf u) nI g h ≠ 0) := ⟨_, rfl⟩
  have a01 : ∀ g k, ss_alike (Vf u) nI g k = 0 ∨ ss_alike (Vf u) nI g k = 1 := fun g k => sp_find01 _ _ _
  have l01 : ∀ g, lf g = 0 ∨ lf g = 1 := fun g => by rw [hlf]; exact ss_left01 g
  have ex : ∀ φ2, sx_I gg nI φ0 (Vf u) u φ2 → sx_f φ1 φ2 → ∀ g, g < gg → ∃ φ', se_isLikeEarlier F nR nN nT gg φ2 (Int32.ofNat g) = some (sp_find (Q g) (fun _ => 1) 0 0 g, φ') ∧ sx_I gg nI φ0 (Vf u) u φ' ∧ sx_f φ1 φ' := by
    intro φ2 h2 h3 g hg
    obtain ⟨φ', ⟨a1, a2⟩, e⟩ := sg_find (L := fun m φ i => se_isLikeEarlier_L2 F nR nN nT gg m φ (Int32.ofNat g) i) (I := fun φ3 => sx_I gg nI φ0 (Vf u) u φ3 ∧ sx_f φ1 φ3) (N := g) (Q g) (fun _ => 1) 0 (fun m φ3 j hh hj => by
        have e33 : φ3 33 j = lf j := by rw [hh.2 33 j (by omega) (by omega)]; exact m4 j (by omega)
        have st : se_isLikeEarlier_L2 F nR nN nT gg (m + 1) φ3 (Int32.ofNat g) (Int32.ofNat j) = if lf j = 0 then se_isLikeEarlier_L2 F nR nN nT gg m φ3 (Int32.ofNat g) (Int32.ofNat (j + 1)) else qb2 (ve_areAlike F nR nN nT gg φ3 (Int32.ofNat g) (Int32.ofNat j)) fun y1 φ1 => if y1 = 0 then se_isLikeEarlier_L2 F nR nN nT gg m φ1 (Int32.ofNat g) (Int32.ofNat (j + 1)) else some (1, φ1) := by
          conv => lhs; unfold se_isLikeEarlier_L2
          rw [if_neg (by rw [ya_le (by omega) (by omega)]; omega), decide_eq_true (show gg < 2147483648 by omega)]
          simp only [yg1]
          rw [if_neg (by rw [ya_le (by omega) (by omega)]; omega), ya_in (by omega) (by omega), ya_nn (by omega), e33, ya_add1]
          rfl
        show ∃ φ', _ ∧ se_isLikeEarlier_L2 F nR nN nT gg (m + 1) φ3 (Int32.ofNat g) (Int32.ofNat j) = _
        rw [st]
        by_cases q : lf j = 0
        · exact ⟨φ3, hh, by rw [if_pos q, if_neg (by rw [hQ]; simp [q])]⟩
        · obtain ⟨φ4, r1, r2, r3⟩ := sx_alike H hh.1 hg (show j < gg by omega)
          refine ⟨φ4, ⟨r2, hh.2.trans r3⟩, ?_⟩
          rw [if_neg q, r1]
          simp only [yb2]
          rcases a01 g j with z | z
          · rw [z, if_pos rfl, if_neg (by rw [hQ]; simp [z])]
          · rw [z, if_neg (by decide), if_pos (by rw [hQ]; simp [z, q])]) (fun m φ3 hh => by
        show se_isLikeEarlier_L2 F nR nN nT gg (m + 1) φ3 (Int32.ofNat g) (Int32.ofNat g) = _
        unfold se_isLikeEarlier_L2
        rw [if_pos (Int32.le_refl _)]) g F 0 φ2 (by omega) (by omega) ⟨h2, h3⟩
    exact ⟨φ', e, a1, a2⟩
  have em : ∀ ψ2, sm_I gg nI ψ0 (Vf u) u ψ2 → sm_f (qm_u ψ 0 0 0) ψ2 → ∀ g, g < gg → ∃ ψ', mo_isFirstLike F ψ2 (Int32.ofNat g) = some (sp_find (Q g) (fun _ => 0) 1 0 g, ψ') ∧ sm_I gg nI ψ0 (Vf u) u ψ' ∧ sm_f (qm_u ψ 0 0 0) ψ' := by
    intro φ2 h2 h3 g hg
    obtain ⟨φ', ⟨a1, a2⟩, e⟩ := sg_find (L := fun m φ i => mo_isFirstLike_L2 F m φ (Int32.ofNat g) i) (I := fun φ3 => sm_I gg nI ψ0 (Vf u) u φ3 ∧ sm_f (qm_u ψ 0 0 0) φ3) (N := g) (Q g) (fun _ => 0) 1 (fun m φ3 j hh hj => by
        obtain ⟨φ5, s1, s2, s3⟩ := sm_left H hP hh.1 (hKm.fr hh.2) (show j < gg by omega)
        rw [← hlf] at s1
        show ∃ φ', _ ∧ mo_isFirstLike_L2 F (m + 1) φ3 (Int32.ofNat g) (Int32.ofNat j) = _
        have st : mo_isFirstLike_L2 F (m + 1) φ3 (Int32.ofNat g) (Int32.ofNat j) = if lf j = 0 then mo_isFirstLike_L2 F m φ5 (Int32.ofNat g) (Int32.ofNat (j + 1)) else qb2 (mo_areAlike F φ5 (Int32.ofNat j) (Int32.ofNat g)) fun y2 φ2 => if y2 = 0 then mo_isFirstLike_L2 F m φ2 (Int32.ofNat g) (Int32.ofNat (j + 1)) else some (0, φ2) := by
          conv => lhs; unfold mo_isFirstLike_L2
          rw [if_neg (by rw [ya_le (by omega) (by omega)]; omega), s1, ya_add1]
          rfl
        rw [st]
        by_cases q : lf j = 0
        · exact ⟨φ5, ⟨s2, hh.2.trans s3⟩, by rw [if_pos q, if_neg (by rw [hQ]; simp [q])]⟩
        · obtain ⟨φ4, r1, r2, r3⟩ := sm_alike H s2 (show j < gg by omega) hg
          refine ⟨φ4, ⟨r2, hh.2.trans (s3.trans r3)⟩, ?_⟩
          rw [if_neg q, r1, ss_alike_c]
          simp only [yb2]
          rcases a01 g j with z | z
          · rw [z, if_pos rfl, if_neg (by rw [hQ]; simp [z])]
          · rw [z, if_neg (by decide), if_pos (by rw [hQ]; simp [z, q])]) (fun m φ3 hh => by
        show mo_isFirstLike_L2 F (m + 1) φ3 (Int32.ofNat g) (Int32.ofNat g) = _
        unfold mo_isFirstLike_L2
        rw [if_pos (Int32.le_refl _)]) g F 0 φ2 (by omega) (by omega) ⟨h2, h3⟩
    exact ⟨φ', e, a1, a2⟩
  obtain ⟨Pc, hPc⟩ : ∃ Pc : Nat → Bool, Pc = fun g => decide (lf g ≠ 0) && decide (sp_find (Q g) (fun _ => 1) 0 0 g = 0) := ⟨_, rfl⟩
  obtain ⟨φ', ⟨b1, b2⟩, e1⟩ := sg_cnt (L := fun m φ a i => se_unlikeLeft_L4 F nR nN nT gg m φ a i) (I := fun φ3 => sx_I gg nI φ0 (Vf u) u φ3 ∧ sx_f φ1 φ3) (N := gg) Pc (fun m φ3 j a hh hj => by
      have e33 : φ3 33 j = lf j := by rw [hh.2 33 j (by omega) (by omega)]; exact m4 j (by omega)
      show ∃ φ', _ ∧ se_unlikeLeft_L4 F nR nN nT gg (m + 1) φ3 (Int32.ofNat a) (Int32.ofNat j) = _
      have st : se_unlikeLeft_L4 F nR nN nT gg (m + 1) φ3 (Int32.ofNat a) (Int32.ofNat j) = if lf j = 0 then se_unlikeLeft_L4 F nR nN nT gg m φ3 (Int32.ofNat a) (Int32.ofNat (j + 1)) else qb2 (se_isLikeEarlier F nR nN nT gg φ3 (Int32.ofNat j)) fun y1 φ1 => if ¬ y1 = 0 then se_unlikeLeft_L4 F nR nN nT gg m φ1 (Int32.ofNat a) (Int32.ofNat (j + 1)) else se_unlikeLeft_L4 F nR nN nT gg m φ1 (Int32.ofNat (a + 1)) (Int32.ofNat (j + 1)) := by
        conv => lhs; unfold se_unlikeLeft_L4
        rw [decide_eq_true (show gg < 2147483648 by omega)]
        simp only [yg1]
        rw [if_neg (by rw [ya_le (by omega) (by omega)]; omega), ya_in (by omega) (by omega), ya_nn (by omega), e33, ya_add1, ya_add1]
        rfl
      rw [st]
      by_cases q : lf j = 0
      · refine ⟨φ3, hh, ?_⟩
        have : Pc j = false := by rw [hPc]; simp [q]
        simp [q, this]
      · obtain ⟨φ4, r1, r2, r3⟩ := ex φ3 hh.1 hh.2 j hj
        refine ⟨φ4, ⟨r2, r3⟩, ?_⟩
        rw [if_neg q, r1]
        simp only [yb2]
        rcases sp_find_01 (Q j) j 0 with ⟨z, _⟩ | ⟨z, _⟩
        · have : Pc j = true := by rw [hPc]; simp [q, z]
          simp [z, this]
        · have : Pc j = false := by rw [hPc]; simp [q, z]
          simp [z, this]) (fun m φ3 a hh => by
      show se_unlikeLeft_L4 F nR nN nT gg (m + 1) φ3 (Int32.ofNat a) (Int32.ofNat gg) = _
      unfold se_unlikeLeft_L4
      rw [decide_eq_true (show gg < 2147483648 by omega)]
      simp only [yg1]
      rw [if_pos (Int32.le_refl _)]) gg F 0 0 φ1 (by omega) (by omega) ⟨m2, sx_f0 φ1⟩
  obtain ⟨ψ', ⟨b3, b4⟩, e2⟩ := sg_cnt (L := fun m φ a i => mo_kinds_L18 F m φ a i) (I := fun φ3 => sm_I gg nI ψ0 (Vf u) u φ3 ∧ sm_f (qm_u ψ 0 0 0) φ3) (N := gg) Pc (fun m φ3 j a hh hj => by
      obtain ⟨φ5, s1, s2, s3⟩ := sm_left H hP hh.1 (hKm.fr hh.2) hj
      rw [← hlf] at s1
      show ∃ φ', _ ∧ mo_kinds_L18 F (m + 1) φ3 (Int32.ofNat a) (Int32.ofNat j) = _
      have st : mo_kinds_L18 F (m + 1) φ3 (Int32.ofNat a) (Int32.ofNat j) = if lf j = 0 then mo_kinds_L18 F m φ5 (Int32.ofNat a) (Int32.ofNat (j + 1)) else qb2 (mo_isFirstLike F φ5 (Int32.ofNat j)) fun y3 φ2 => if y3 = 0 then mo_kinds_L18 F m φ2 (Int32.ofNat a) (Int32.ofNat (j + 1)) else mo_kinds_L18 F m φ2 (Int32.ofNat (a + 1)) (Int32.ofNat (j + 1)) := by
        conv => lhs; unfold mo_kinds_L18
        rw [(sm_gi H hh.1.1).1]
        simp only [yb1]
        rw [if_neg (by rw [ya_le (by omega) (by omega)]; omega), s1, ya_add1, ya_add1, Int32.add_zero]
        rfl
      rw [st]
      by_cases q : lf j = 0
      · refine ⟨φ5, ⟨s2, hh.2.trans s3⟩, ?_⟩
        have : Pc j = false := by rw [hPc]; simp [q]
        simp [q, this]
      · obtain ⟨φ4, r1, r2, r3⟩ := em φ5 s2 (hh.2.trans s3) j hj
        refine ⟨φ4, ⟨r2, r3⟩, ?_⟩
        rw [if_neg q, r1]
        simp only [yb2]
        rcases sp_find_01 (Q j) j 0 with ⟨z, z'⟩ | ⟨z, z'⟩
        · have : Pc j = true := by rw [hPc]; simp [q, z]
          simp [z', this]
        · have : Pc j = false := by rw [hPc]; simp [q, z]
          simp [z', this]) (fun m φ3 a hh => by
      show mo_kinds_L18 F (m + 1) φ3 (Int32.ofNat a) (Int32.ofNat gg) = _
      unfold mo_kinds_L18
      rw [(sm_gi H hh.1.1).1]
      simp only [yb1]
      rw [if_pos (Int32.le_refl _)]) gg F 0 0 _ (by omega) (by omega) ⟨hm, sm_f0 _⟩
  refine ⟨Int32.ofNat (0 + sp_cnt Pc 0 gg), φ', ψ', ?_, ?_, h.q b1 (m3.trans b2.g) b3 ((sm_h0 ψ 0).trans b4.h)⟩
  · unfold sf_kinds
    rw [m1]
    simp only [yb1]
    have e1' : se_unlikeLeft F nR nN nT gg φ1 = _ := e1
    rw [e1']
    rfl
  · unfold mo_kinds
    rw [h12, if_pos (by decide)]
    exact e2
theorem ss_btn : ∀ k, k < 40 → ∀ j, j < 40 → ss_bt ((-1) &&& (((1 : Int64) <<< (Int32.toInt64 (Int32.ofNat k) &&& 63)) ^^^ (-1))) j = decide (j ≠ k) := by decide +kernel
theorem so_needed (h : sb_D F nR nN nT gg nI φ0 ψ0 Vf Hb rk u nK o s tn pn kp cur φ ψ) (x1 : Int32) : sb_ask F nR nN nT gg nI φ0 ψ0 Vf Hb rk u nK o s tn pn kp cur (sf_needed F nR nN nT gg φ x1) (mo_needed F ψ x1) := by
  have H := h.1 u h.2.2.2.1
  have hF := ss_F H
  have hP := h.2.1
  have hx := h.2.2.2.2.1
  have hm := h.2.2.2.2.2.1.t 0
  have hKx := h.2.2.2.2.2.2.1
  have hKm := h.2.2.2.2.2.2.2.1.t 0
  have h12 : ψ 0 12 = 1 := h.2.2.2.2.2.2.2.2.2.2.2.2.1
  have n40 : nK ≤ 40 := hKx.2.2.2
  have n45 : ψ 0 45 = Int32.ofNat nK := hKm.2.1
  unfold sf_needed mo_needed
  rw [h12, if_neg (by decide), n45, show (0 : Int64) = Int32.toInt64 0 from by decide, ys_wi]
  simp only [yb1]
  by_cases c0 : x1 < 0
  · simp only [if_pos c0]
    unfold se_hasKept
    rw [if_pos c0]
    simp only [yb1]
    rw [if_neg (by decide), if_neg (by decide)]
    exact ⟨-1, φ, _, rfl, rfl, h.th 0⟩
  · obtain ⟨k, hk, rfl⟩ := ya_nat c0
    simp only [if_neg c0]
    rw [sx_has hKx hk]
    simp only [yb1]
    by_cases q : k < nK
    · have hn1 : Int32.ofNat nK - 1 = Int32.ofNat (nK - 1) := ya_sub1 (by omega)
      rw [hn1, if_pos q, if_pos (c := Int32.ofNat k ≤ Int32.ofNat (nK - 1)) (by rw [ya_le (by omega) (by omega)]; omega), if_pos (by decide), if_pos (by decide)]
      obtain ⟨φ1, r1, r2, r3⟩ := sx_leftWith (b := fun j => decide (j ≠ k)) H hP hx hKx (ss_btn k (by omega))
      obtain ⟨φ2, r4, r5, r6⟩ := sx_leftWith (b := fun _ => true) H hP r2 (hKx.fr r3) ss_btall
      obtain ⟨ψ1, s1, s2, s3⟩ := sm_count (w := 0) H hP hm hKm (by omega)
      have hK1 := hKm.fr s3
      have u1 : ∀ a j, ¬ (a = 21 ∧ j = k) → (qm_u ψ1 21 k 1) a j = ψ1 a j := fun a j x => by (unfold qm_u; repeat' split) <;> first | rfl | omega
      have i1 : sm_I gg nI ψ0 (Vf u) u (qm_u ψ1 21 k 1) := by
        refine ⟨fun a j x => by rw [u1 a j (by omega)]; exact s2.1 a j x, by rw [u1 _ _ (by omega)]; exact s2.2.1, ?_⟩
        rw [u1 0 40 (by omega)]
        rcases s2.2.2 with z | ⟨z, z'⟩
        · exact Or.inl z
        · exact Or.inr ⟨z, fun g i x y => by rw [u1 19 _ (by omega)]; exact z' g i x y⟩
      have k1 : sm_K nI pn kp nK (fun j => decide (j ≠ k)) (qm_u ψ1 21 k 1) := by
        refine ⟨fun j hj => by rw [u1 _ _ (by omega)]; exact hK1.1 j hj, by rw [u1 _ _ (by omega)]; exact hK1.2.1, fun j hj => by rw [u1 _ _ (by omega)]; exact hK1.2.2.1 j hj, hK1.2.2.2.1, fun j hj => ?_⟩
        by_cases w : j = k
        · subst w; rw [ya_u_same, if_neg (by simp)]
        · rw [u1 _ _ (by omega), if_pos (by simp [w])]; exact hK1.2.2.2.2 j hj
      obtain ⟨ψ2, s4, s5, s6⟩ := sm_count (w := 0) H hP i1 k1 (by omega)
      have s1' : mo_manyOf F (qm_u ψ 0 0 0) 0 = _ := s1
      have s4' : mo_manyOf F (qm_u ψ1 21 k 1) 0 = _ := s4
      rw [r1, s1', ya_in (k := k) (n := 40) (by omega) (by omega), ya_nn (by omega)]
      simp only [yb2, yg1]
      rw [r4, s4']
      simp only [yb2]
      have hA : sp_cnt (ss_of (Vf u) nI pn Hb kp nK (fun j => decide (j ≠ k)) 0) 0 gg ≤ 128 := Nat.le_trans (sp_cntle _ _ _) hF.2.1
      have hB : sp_cnt (ss_of (Vf u) nI pn Hb kp nK (fun _ => true) 0) 0 gg ≤ 128 := Nat.le_trans (sp_cntle _ _ _) hF.2.1
      have u2 : ∀ a j, ¬ (a = 21 ∧ j = k) → (qm_u ψ2 21 k 0) a j = ψ2 a j := fun a j x => by (unfold qm_u; repeat' split) <;> first | rfl | omega
      have fin : sb_D F nR nN nT gg nI φ0 ψ0 Vf Hb rk u nK o s tn pn kp cur φ2 (qm_u ψ2 21 k 0) := by
        refine h.q r5 (r3.trans r6).g ⟨fun a j x => by rw [u2 a j (by omega)]; exact s5.1 a j x, by rw [u2 _ _ (by omega)]; exact s5.2.1, ?_⟩ (fun a j x y => ?_)
        · rw [u2 0 40 (by omega)]
          rcases s5.2.2 with z | ⟨z, z'⟩
          · exact Or.inl z
          · exact Or.inr ⟨z, fun g i x y => by rw [u2 19 _ (by omega)]; exact z' g i x y⟩
        · by_cases w : a = 21 ∧ j = k
          · obtain ⟨rfl, rfl⟩ := w
            rw [ya_u_same]
            have := hKm.2.2.2.2 j (by omega)
            rw [if_pos rfl] at this
            rw [← this]
            simp [qm_u]
          · rw [u2 a j w, s6 a j (by omega) (by omega), u1 a j w, s3 a j (by omega) (by omega)]
            exact sm_h0 ψ 0 a j x y
      by_cases w : sp_cnt (ss_of (Vf u) nI pn Hb kp nK (fun j => decide (j ≠ k)) 0) 0 gg ≤ sp_cnt (ss_of (Vf u) nI pn Hb kp nK (fun _ => true) 0) 0 gg
      · have w' := (ya_le (by omega) (by omega)).mpr w
        rw [if_pos w', if_pos w']
        exact ⟨0, φ2, _, rfl, rfl, fin⟩
      · have w' := fun z => w ((ya_le (by omega) (by omega)).mp z)
        rw [if_neg w', if_neg w']
        exact ⟨1, φ2, _, rfl, rfl, fin⟩
    · have q' : ¬ Int32.ofNat k ≤ Int32.ofNat nK - 1 := by
        by_cases z : nK = 0
        · subst z
          intro w
          exact ya_lt0 hk (Int32.lt_of_le_of_lt w (by decide))
        · rw [ya_sub1 (by omega), ya_le (by omega) (by omega)]; omega
      simp only [if_neg q, if_neg q']
      rw [if_neg (by decide), if_neg (by decide)]
      exact ⟨-1, φ, _, rfl, rfl, h.th 0⟩

theorem sf_or (g M X : Int32) : (g &&& (M ^^^ (-1))) ||| (X &&& M) = (g &&& (M ^^^ (-1))) + (X &&& M) := by
  apply Int32.toBitVec_inj.mp
  rw [Int32.toBitVec_or, Int32.toBitVec_add, BitVec.add_eq_or_of_and_eq_zero]
  rw [Int32.toBitVec_and, Int32.toBitVec_and, Int32.toBitVec_xor]
  have ho : ∀ i (hi : i < 32), ((-1 : Int32).toBitVec)[i] = true := by decide
  generalize (-1 : Int32).toBitVec = N at ho
  ext i hi
  have := ho i hi
  simp [this]
  intro _ h1 _
  exact h1
theorem sf_b1 : ∀ sh, sh < 8 → ∀ w, w < 8 - sh → ∀ g, g < 128 → (Int32.ofNat g &&& (((((1 : Int32) <<< (Int32.ofNat w &&& 31)) - 1) <<< (Int32.ofNat sh &&& 31)) ^^^ (-1))) = Int32.ofNat (g - (g / 2 ^ sh % 2 ^ w) * 2 ^ sh) := by decide +kernel
theorem sf_b2 : ∀ sh, sh < 8 → ∀ w, w < 8 - sh → ∀ v, v < 2 ^ w → ((Int32.ofNat v <<< (Int32.ofNat sh &&& 31)) &&& ((((1 : Int32) <<< (Int32.ofNat w &&& 31)) - 1) <<< (Int32.ofNat sh &&& 31))) = Int32.ofNat (v * 2 ^ sh) := by decide +kernel
theorem sf_b3 : ∀ w, w < 8 → ∀ a, a < 128 → (Int32.ofNat a &&& (((1 : Int32) <<< (Int32.ofNat w &&& 31)) - 1)) = Int32.ofNat (a % 2 ^ w) := by decide +kernel
theorem sf_b4 : ∀ sh, sh < 8 → ∀ a, a < 128 → Int32.ofNat a <<< (Int32.ofNat sh &&& 31) = Int32.ofNat (a * 2 ^ sh) := by decide +kernel
theorem sf_rng {g sh w v S : Nat} (hg : g < 2 ^ S) (hs : sh + w ≤ S) (hv : v < 2 ^ w) : (g / 2 ^ sh % 2 ^ w) * 2 ^ sh ≤ g ∧ g - (g / 2 ^ sh % 2 ^ w) * 2 ^ sh + v * 2 ^ sh < 2 ^ S := by
  have e1 : g = 2 ^ sh * (g / 2 ^ sh) + g % 2 ^ sh := (Nat.div_add_mod g _).symm
  have e2 : g / 2 ^ sh = 2 ^ w * (g / 2 ^ sh / 2 ^ w) + g / 2 ^ sh % 2 ^ w := (Nat.div_add_mod _ _).symm
  have e3 : g % 2 ^ sh < 2 ^ sh := Nat.mod_lt _ (Nat.two_pow_pos _)
  have e4 : g / 2 ^ sh / 2 ^ w < 2 ^ (S - sh - w) := by
    rw [Nat.div_div_eq_div_mul, ← Nat.pow_add]
    apply Nat.div_lt_of_lt_mul
    rw [← Nat.pow_add, show sh + w + (S - sh - w) = S by omega]
    exact hg
  obtain ⟨A, hA⟩ : ∃ A, A = g / 2 ^ sh / 2 ^ w := ⟨_, rfl⟩
  obtain ⟨m, hm⟩ : ∃ m, m = g / 2 ^ sh % 2 ^ w := ⟨_, rfl⟩
  obtain ⟨l, hl⟩ : ∃ l, l = g % 2 ^ sh := ⟨_, rfl⟩
  rw [← hA, ← hm] at e2
  rw [e2, ← hl] at e1
  rw [← hm]
  rw [← hA] at e4
  rw [← hl] at e3
  have e5 : g = A * (2 ^ w * 2 ^ sh) + m * 2 ^ sh + l := by
    rw [e1, Nat.mul_add, Nat.mul_comm (2 ^ sh) m, ← Nat.mul_assoc, Nat.mul_comm (2 ^ sh * 2 ^ w) A, Nat.mul_comm (2 ^ sh) (2 ^ w)]
  have e6 : (A + 1) * (2 ^ w * 2 ^ sh) ≤ 2 ^ S := by
    have : 2 ^ S = 2 ^ (S - sh - w) * (2 ^ w * 2 ^ sh) := by rw [← Nat.pow_add, ← Nat.pow_add]; congr 1; omega
    rw [this]
    exact Nat.mul_le_mul_right _ e4
  have e7 : (v + 1) * 2 ^ sh ≤ 2 ^ w * 2 ^ sh := Nat.mul_le_mul_right _ hv
  rw [Nat.add_mul, Nat.one_mul] at e6 e7
  generalize A * (2 ^ w * 2 ^ sh) = a1 at *
  generalize 2 ^ w * 2 ^ sh = a2 at *
  generalize m * 2 ^ sh = a3 at *
  generalize v * 2 ^ sh = a4 at *
  omega
theorem so_free (hg2 : gg = 2 ^ Hb.sum) (h : sb_D F nR nN nT gg nI φ0 ψ0 Vf Hb rk u nK o s tn pn kp cur φ ψ) (x1 x2 : Int32) : sb_ask F nR nN nT gg nI φ0 ψ0 Vf Hb rk u nK o s tn pn kp cur (sf_free F nR nN nT gg φ x1 x2) (mo_free F ψ x1 x2) := by
  have H := h.1 u h.2.2.2.1
  have hF := ss_F H
  have hP := h.2.1
  have hx := h.2.2.2.2.1
  have hm := h.2.2.2.2.2.1.t 0
  have h12 : (qm_u ψ 0 0 0) 0 12 = 1 := h.2.2.2.2.2.2.2.2.2.2.2.2.1
  unfold sf_free mo_free
  rcases sg_guess H hx.1 hm.1 h12 x1 with ⟨g, hg, rfl, e1, e2⟩ | ⟨e1, e2⟩
  · rcases sg_hole (F := F) (nR := nR) (nN := nN) (nT := nT) hP hx.1 hm.1 h12 x2 with ⟨k, hk, rfl, e3, e4⟩ | ⟨e3, e4⟩
    · rw [e1, e2]
      simp only [yb1]
      rw [if_neg (by decide), if_neg (by decide), e3, e4]
      simp only [yb1]
      rw [if_pos (by decide), if_pos (by decide)]
      have p1 := hP.1
      have p2 := hP.2.1
      obtain ⟨sh, hsh⟩ : ∃ sh, sh = rp_sh Hb k := ⟨_, rfl⟩
      obtain ⟨w, hw⟩ : ∃ w, w = Hb.getD k 0 := ⟨_, rfl⟩
      have hsw : sh + w ≤ Hb.sum := by
        have h3 := rp_sumle Hb k
        have h4 := rp_drop Hb (k := k) hk
        rw [← hw] at h4
        unfold rp_sh at hsh
        omega
      have gw : Hb[k] = w := by rw [hw, List.getD_eq_getElem?_getD, List.getElem?_eq_getElem hk]; rfl
      obtain ⟨w1, w2⟩ := hP.2.2.2.2 k Hb[k] (List.getElem?_eq_getElem hk)
      rw [gw] at w1 w2
      have gS : g < 2 ^ Hb.sum := by omega
      obtain ⟨N, hN⟩ : ∃ N, N = 2 ^ w := ⟨_, rfl⟩
      have eN : (1 : Int32) <<< (Int32.ofNat w &&& 31) = Int32.ofNat N := by
        have := sf_b4 w (by omega) 1 (by omega)
        rw [Nat.one_mul, ← hN] at this
        exact this
      have N128 : N ≤ 128 := by rw [hN]; exact Nat.pow_le_pow_right (n := 2) (by omega) (show w ≤ 7 by omega)
      obtain ⟨fr, hfr⟩ : ∃ fr : Nat → Nat, fr = fun v => g - (g / 2 ^ sh % 2 ^ w) * 2 ^ sh + v * 2 ^ sh := ⟨_, rfl⟩
      have frl : ∀ v, v < N → fr v < gg := fun v hv => by rw [hfr, hg2]; exact (sf_rng gS hsw (by omega)).2
      have ne1 := fun a => ss_least_neg (V := Vf u) (nI := nI) (g := a) hF.2.2.1
      -- the component
      obtain ⟨φ', ⟨b1, b2⟩, c1⟩ := sg_cnt (L := fun m φ a i => sf_free_L51 F nR nN nT gg m φ (Int32.ofNat g) (Int32.ofNat k) a i) (I := fun φ3 => sx_I gg nI φ0 (Vf u) u φ3 ∧ sx_f φ φ3) (N := N) (fun v => decide (ss_least (Vf u) nI (fr v) = -1)) (fun m φ3 v a hh hv => by
          have v1 : φ3 16 k = Int32.ofNat w := by rw [hh.1.1.1 16 k (by omega) (by omega)]; exact w1
          have hwv : pr_withValue F nR nN nT φ3 (Int32.ofNat g) (Int32.ofNat k) (Int32.ofNat v) = some (Int32.ofNat (fr v)) := by
            unfold pr_withValue
            rw [sx_hole1 hP hh.1.1 hk]
            simp only [yb1]
            rw [if_pos (by decide), sx_shift hF.1 hP hh.1.1 hk, ← hsh, ya_in (k := k) (n := 5) (by omega) (by omega), ya_nn (by omega), v1]
            simp only [yb1, yg1]
            rw [sf_or, sf_b1 sh (by omega) w (by omega) g (by omega), sf_b2 sh (by omega) w (by omega) v (by omega), ya_add, hfr]
          obtain ⟨φ4, r1, r2, r3⟩ := sx_least H hh.1 (frl v hv)
          refine ⟨φ4, ⟨r2, hh.2.trans r3⟩, ?_⟩
          show sf_free_L51 F nR nN nT gg (m + 1) φ3 (Int32.ofNat g) (Int32.ofNat k) (Int32.ofNat a) (Int32.ofNat v) = _
          conv => lhs; unfold sf_free_L51
          rw [ya_in (k := k) (n := 5) (by omega) (by omega), ya_nn (by omega), v1, eN, hwv]
          simp only [yg1, yb1]
          rw [if_neg (by rw [ya_le (by omega) (by omega)]; omega), r1, ya_add1, ya_add1]
          simp only [yb2]
          by_cases q : ss_least (Vf u) nI (fr v) = -1
          · simp [q]
          · simp [q]) (fun m φ3 a hh => by
          have v1 : φ3 16 k = Int32.ofNat w := by rw [hh.1.1.1 16 k (by omega) (by omega)]; exact w1
          show sf_free_L51 F nR nN nT gg (m + 1) φ3 (Int32.ofNat g) (Int32.ofNat k) (Int32.ofNat a) (Int32.ofNat N) = _
          unfold sf_free_L51
          rw [ya_in (k := k) (n := 5) (by omega) (by omega), ya_nn (by omega), v1, eN]
          simp only [yg1]
          rw [if_pos (Int32.le_refl _)]) N F 0 0 φ (by omega) (by omega) ⟨hx, sx_f0 φ⟩
      -- the reference
      have v2 : ∀ ψ1, sm_st ψ0 ψ1 → ψ1 4 (3 + k) = Int32.ofNat w := fun ψ1 z => by rw [z 4 (3 + k) (by omega)]; exact w2
      obtain ⟨ψ', ⟨b3, b4⟩, c2⟩ := sg_cnt (L := fun m φ a i => mo_free_L89 F m φ (Int32.ofNat sh) (Int32.ofNat N) (Int32.ofNat g - (rp_v Hb g k <<< (Int32.ofNat sh &&& 31))) a i) (I := fun φ3 => sm_I gg nI ψ0 (Vf u) u φ3 ∧ sm_f (qm_u ψ 0 0 0) φ3) (N := N) (fun v => decide (ss_least (Vf u) nI (fr v) = -1)) (fun m φ3 v a hh hv => by
          have hwv : Int32.ofNat g - (rp_v Hb g k <<< (Int32.ofNat sh &&& 31)) + (Int32.ofNat v <<< (Int32.ofNat sh &&& 31)) = Int32.ofNat (fr v) := by
            unfold rp_v
            rw [← hsh, ← hw]
            have a1 : g / 2 ^ sh < 128 := Nat.lt_of_le_of_lt (Nat.div_le_self _ _) (by omega)
            have a2 : g / 2 ^ sh % 2 ^ w < 128 := Nat.lt_of_le_of_lt (Nat.mod_le _ _) a1
            have a3 := (sf_rng gS hsw (v := v) (by omega)).1
            rw [sf_b3 w (by omega) _ a1, sf_b4 sh (by omega) _ a2, sf_b4 sh (by omega) v (by omega), ya_sub a3, ya_add, hfr]
          obtain ⟨φ4, r1, r2, r3⟩ := sm_least H hh.1 (frl v hv)
          refine ⟨φ4, ⟨r2, hh.2.trans r3⟩, ?_⟩
          show mo_free_L89 F (m + 1) φ3 (Int32.ofNat sh) (Int32.ofNat N) (Int32.ofNat g - (rp_v Hb g k <<< (Int32.ofNat sh &&& 31))) (Int32.ofNat a) (Int32.ofNat v) = _
          conv => lhs; unfold mo_free_L89
          rw [if_neg (by rw [ya_le (by omega) (by omega)]; omega), hwv, r1, ya_add1, ya_add1, Int32.add_zero]
          simp only [yb2]
          by_cases q : ss_least (Vf u) nI (fr v) = -1
          · rw [if_neg ((ne1 _).mp q)]; simp [q]
          · rw [if_pos (by
              by_cases z : 0 ≤ ss_least (Vf u) nI (fr v)
              · exact z
              · exact absurd ((ne1 _).mpr z) q)]; simp [q]) (fun m φ3 a hh => by
          show mo_free_L89 F (m + 1) φ3 (Int32.ofNat sh) (Int32.ofNat N) (Int32.ofNat g - (rp_v Hb g k <<< (Int32.ofNat sh &&& 31))) (Int32.ofNat a) (Int32.ofNat N) = _
          unfold mo_free_L89
          rw [if_pos (Int32.le_refl _)]) N F 0 0 _ (by omega) (by omega) ⟨hm, sm_f0 _⟩
      refine ⟨Int32.ofNat (0 + sp_cnt (fun v => decide (ss_least (Vf u) nI (fr v) = -1)) 0 N), φ', ψ', c1, ?_, h.q b1 b2.g b3 ((sm_h0 ψ 0).trans b4.h)⟩
      rw [← c2]
      have e22 : (qm_u ψ 0 0 0) 2 2 = Int32.ofNat Hb.length := by rw [hm.1 2 2 (by omega)]; exact hP.2.2.2.1
      have : ∀ (m i : Nat), Hb.length + 1 ≤ m + i → k + 1 ≤ i → i ≤ Hb.length → mo_free_L30 F m (qm_u ψ 0 0 0) (Int32.ofNat g) (Int32.ofNat k) (Int32.ofNat (rp_sh Hb k - (Hb.drop i).sum)) (Int32.ofNat i) = mo_free_L89 F F (qm_u ψ 0 0 0) (Int32.ofNat sh) (Int32.ofNat N) (Int32.ofNat g - (rp_v Hb g k <<< (Int32.ofNat sh &&& 31))) 0 0 := by
        intro m
        induction m with
        | zero => intro i h1 h2 h3; omega
        | succ m ih =>
          intro i h1 h2 h3
          conv => lhs; unfold mo_free_L30
          rw [e22, yi_le (by omega) (by omega)]
          by_cases q : Hb.length ≤ i
          · have e0 : (Hb.drop i).sum = 0 := by rw [List.drop_eq_nil_of_le q]; rfl
            rw [if_pos q, e0, Nat.sub_zero, ← hsh, sm_hole hF.1 hP hm.1 (by omega) hk, show (3 : Int32) + Int32.ofNat k = Int32.ofNat (3 + k) from ya_add 3 k, ya_in (k := 3 + k) (n := 30) (by omega) (by omega), ya_nn (by omega), v2 _ hm.1, eN]
            rfl
          · have hd : (qm_u ψ 0 0 0) 4 (3 + i) = Int32.ofNat (Hb.getD i 0) := by
              rw [hm.1 4 (3 + i) (by omega), (hP.2.2.2.2 i Hb[i] (List.getElem?_eq_getElem (by omega))).2, List.getD_eq_getElem?_getD, List.getElem?_eq_getElem (by omega)]
              rfl
            rw [if_neg q, show (3 : Int32) + Int32.ofNat i = Int32.ofNat (3 + i) from ya_add 3 i, ya_in (k := 3 + i) (n := 30) (by omega) (by omega), ya_nn (by omega), hd, ya_add, ya_add1]
            simp only [yg1]
            have e1 := rp_drop Hb (k := i) (by omega)
            have hle : (Hb.drop i).sum ≤ rp_sh Hb k := by
              unfold rp_sh
              have : (Hb.drop i) = (Hb.drop (k + 1)).drop (i - (k + 1)) := by rw [List.drop_drop]; congr 1; omega
              rw [this]
              exact rp_sumle _ _
            rw [show rp_sh Hb k - (Hb.drop i).sum + Hb.getD i 0 = rp_sh Hb k - (Hb.drop (i + 1)).sum by omega]
            exact ih (i + 1) (by omega) (by omega) (by omega)
      have t := this F (k + 1) (by omega) (Nat.le_refl _) (by omega)
      rw [show rp_sh Hb k - (Hb.drop (k + 1)).sum = 0 by unfold rp_sh; omega] at t
      rw [ya_add1]
      exact t
    · rw [e1, e2]
      simp only [yb1]
      rw [if_neg (by decide), if_neg (by decide), e3, e4]
      simp only [yb1]
      rw [if_neg (by decide), if_neg (by decide)]
      exact ⟨-1, φ, _, rfl, rfl, h.th 0⟩
  · rw [e1, e2]
    simp only [yb1]
    rw [if_pos trivial, if_pos trivial]
    exact ⟨-1, φ, _, rfl, rfl, h.th 0⟩
end S9
