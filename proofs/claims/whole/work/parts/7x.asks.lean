/-! SEMANTICS: the search's state on both sides; what only asks -/
def sb_D (F nR nN nT gg nI : Nat) (φ0 ψ0 : qm_F) (Vf : Nat → Nat → Nat → Nat) (Hb : List Nat) (rk : Nat → Nat) (u nK o s tn : Nat) (pn : Nat → Int32) (kp : Nat → Nat) (cur : Int32) (φ ψ : qm_F) : Prop :=
  (∀ u, u ≤ 9 → ss_H F nR nN nT gg nI φ0 ψ0 (Vf u) u) ∧ ss_P Hb φ0 ψ0 ∧ ss_R gg rk φ0 ψ0 ∧ u ≤ 9 ∧
  sx_I gg nI φ0 (Vf u) u φ ∧ sm_I gg nI ψ0 (Vf u) u ψ ∧ sx_K nI pn kp nK φ ∧ sm_K nI pn kp nK (fun _ => true) ψ ∧
  (φ 30 6 = Int32.ofNat o ∧ ψ 0 44 = Int32.ofNat o ∧ o ≤ 2) ∧ (φ 30 7 = Int32.ofNat s ∧ ψ 0 41 = Int32.ofNat s ∧ s ≤ 2) ∧ (φ 30 8 = cur ∧ ψ 0 42 = cur) ∧
  (cur = -1 ∨ ∃ c, c < gg ∧ cur = Int32.ofNat c ∧ (s = 0 → ss_left (Vf u) pn Hb kp nK (fun _ => true) c ≠ 0)) ∧
  (ψ 0 12 = 1 ∧ qt_T φ ψ tn ∧ tn ≤ 800)
def sm_h (ψ ψ' : qm_F) : Prop := ∀ a j, ¬ (a = 0 ∧ (j = 0 ∨ 36 ≤ j ∧ j ≤ 38 ∨ j = 40)) → ¬ (a = 17 ∨ a = 18 ∨ a = 19) → ψ' a j = ψ a j
theorem sm_f.h {ψ ψ' : qm_F} (h : sm_f ψ ψ') : sm_h ψ ψ' := fun a j x y => h a j (by omega) y
theorem sm_h.trans {ψ ψ' ψ'' : qm_F} (h : sm_h ψ ψ') (h' : sm_h ψ' ψ'') : sm_h ψ ψ'' := fun a j x y => (h' a j x y).trans (h a j x y)
theorem sm_h0 (ψ : qm_F) (v : Int32) : sm_h ψ (qm_u ψ 0 0 v) := by
  intro a j x y
  unfold qm_u
  repeat' split
  all_goals first | rfl | omega
section S4
variable {F nR nN nT gg nI u nK o s tn : Nat} {φ0 ψ0 φ ψ : qm_F} {Vf : Nat → Nat → Nat → Nat} {Hb : List Nat} {pn : Nat → Int32} {kp rk : Nat → Nat} {cur : Int32}
theorem sm_I.t {V : Nat → Nat → Nat} (h : sm_I gg nI ψ0 V u ψ) (v : Int32) : sm_I gg nI ψ0 V u (qm_u ψ 0 0 v) :=
  ⟨fun a j ha => by rw [← h.1 a j ha]; unfold qm_u; repeat' split
                    all_goals first | rfl | omega, h.2.1, h.2.2⟩
theorem sm_K.t {b : Nat → Bool} (h : sm_K nI pn kp nK b ψ) (v : Int32) : sm_K nI pn kp nK b (qm_u ψ 0 0 v) := ⟨h.1, h.2.1, h.2.2.1, h.2.2.2.1, h.2.2.2.2⟩
theorem sb_D.q {φ' ψ' : qm_F} (h : sb_D F nR nN nT gg nI φ0 ψ0 Vf Hb rk u nK o s tn pn kp cur φ ψ) (hx : sx_I gg nI φ0 (Vf u) u φ') (gx : sx_g φ φ') (hm : sm_I gg nI ψ0 (Vf u) u ψ') (gm : sm_h ψ ψ') : sb_D F nR nN nT gg nI φ0 ψ0 Vf Hb rk u nK o s tn pn kp cur φ' ψ' := by
  obtain ⟨a1, a2, a3, a4, a5, a6, a7, a8, ⟨b1, b2, b3⟩, ⟨c1, c2, c3⟩, ⟨d1, d2⟩, a12, ⟨e1, ⟨t1, t2, t3⟩, e3⟩⟩ := h
  refine ⟨a1, a2, a3, a4, hx, hm, a7.gr gx, ?_, ⟨by rw [gx _ _ (by omega) (by omega) (by omega)]; exact b1, by rw [gm _ _ (by omega) (by omega)]; exact b2, b3⟩, ⟨by rw [gx _ _ (by omega) (by omega) (by omega)]; exact c1, by rw [gm _ _ (by omega) (by omega)]; exact c2, c3⟩, ⟨by rw [gx _ _ (by omega) (by omega) (by omega)]; exact d1, by rw [gm _ _ (by omega) (by omega)]; exact d2⟩, a12, ⟨by rw [gm _ _ (by omega) (by omega)]; exact e1, ⟨by rw [gx _ _ (by omega) (by omega) (by omega)]; exact t1, by rw [gm _ _ (by omega) (by omega)]; exact t2, fun j hj => by rw [gx _ _ (by omega) (by omega) (by omega), gm _ _ (by omega) (by omega)]; exact t3 j hj⟩, e3⟩⟩
  exact ⟨fun k hk => by rw [gm _ _ (by omega) (by omega)]; exact a8.1 k hk, by rw [gm _ _ (by omega) (by omega)]; exact a8.2.1, fun j hj => by rw [gm _ _ (by omega) (by omega)]; exact a8.2.2.1 j hj, a8.2.2.2.1, fun j hj => by rw [gm _ _ (by omega) (by omega)]; exact a8.2.2.2.2 j hj⟩
/-- what an operation that only asks has shown -/
def sb_ask (F nR nN nT gg nI : Nat) (φ0 ψ0 : qm_F) (Vf : Nat → Nat → Nat → Nat) (Hb : List Nat) (rk : Nat → Nat) (u nK o s tn : Nat) (pn : Nat → Int32) (kp : Nat → Nat) (cur : Int32) (x y : Option (Int32 × qm_F)) : Prop := ∃ v φ' ψ', x = some (v, φ') ∧ y = some (v, ψ') ∧ sb_D F nR nN nT gg nI φ0 ψ0 Vf Hb rk u nK o s tn pn kp cur φ' ψ'
theorem sb_D.th (h : sb_D F nR nN nT gg nI φ0 ψ0 Vf Hb rk u nK o s tn pn kp cur φ ψ) (v : Int32) : sb_D F nR nN nT gg nI φ0 ψ0 Vf Hb rk u nK o s tn pn kp cur φ (qm_u ψ 0 0 v) := h.q h.2.2.2.2.1 (fun _ _ _ _ _ => rfl) (h.2.2.2.2.2.1.t v) (sm_h0 ψ v)
/-- a run of the reference alone -/
theorem sm_run {V : Nat → Nat → Nat} (H : ss_H F nR nN nT gg nI φ0 ψ0 V u) (hm : sm_I gg nI ψ0 V u ψ) {g i : Nat} (hg : g < gg) (hi : i < nI) : ∃ ψ', mo_ran F ψ (Int32.ofNat g) (Int32.ofNat i) = some (Int32.ofNat (V g i), ψ') ∧ sm_I gg nI ψ0 V u ψ' ∧ sm_f ψ ψ' := by
  obtain ⟨ψ', r4, r5⟩ := H.2.1 ψ hm.1 hm.2.1 g i hg hi
  have f5 : sm_f ψ ψ' := fun a j x y => r5 a j (by omega) (by omega)
  refine ⟨ψ', r4, ⟨fun a j ha => by rw [f5 a j (by omega) (by omega)]; exact hm.1 a j ha, by rw [f5 0 43 (by omega) (by omega)]; exact hm.2.1, ?_⟩, f5⟩
  rw [r5 0 40 (by omega) (by omega)]
  rcases hm.2.2 with z | ⟨z, ht⟩
  · exact Or.inl z
  · exact Or.inr ⟨z, fun g i a b => by rw [r5 19 _ (by omega) (by omega)]; exact ht g i a b⟩
theorem so_verdict (h : sb_D F nR nN nT gg nI φ0 ψ0 Vf Hb rk u nK o s tn pn kp cur φ ψ) (x1 x2 : Int32) : sb_ask F nR nN nT gg nI φ0 ψ0 Vf Hb rk u nK o s tn pn kp cur (sf_verdict F nR nN nT gg φ x1 x2) (mo_verdict F ψ x1 x2) := by
  have H := h.1 u h.2.2.2.1
  have hx := h.2.2.2.2.1
  have hm := h.2.2.2.2.2.1.t 0
  have h12 : (qm_u ψ 0 0 0) 0 12 = 1 := h.2.2.2.2.2.2.2.2.2.2.2.2.1
  rcases sg_guess H hx.1 hm.1 h12 x1 with ⟨g, hg, rfl, e1, e2⟩ | ⟨e1, e2⟩
  · rcases sg_input H hx.1 hm.1 h12 x2 with ⟨i, hi, rfl, e3, e4⟩ | ⟨e3, e4⟩
    · obtain ⟨φ', r1, r2, r3⟩ := sx_verdict H hx hg hi
      obtain ⟨ψ', r4, r5, r6⟩ := sm_run H hm hg hi
      exact ⟨Int32.ofNat (Vf u g i), φ', ψ', by unfold sf_verdict pr_hasRun; simp [qb1, qb2, e1, e3, r1], by unfold mo_verdict; simp [qb1, qb2, e2, e4, r4], h.q r2 r3.g r5 ((sm_h0 ψ 0).trans r6.h)⟩
    · exact ⟨-1, φ, qm_u ψ 0 0 0, by unfold sf_verdict pr_hasRun; simp [qb1, e1, e3], by unfold mo_verdict; simp [qb1, e2, e4], h.th 0⟩
  · exact ⟨-1, φ, qm_u ψ 0 0 0, by unfold sf_verdict pr_hasRun; simp [qb1, e1], by unfold mo_verdict; simp [qb1, e2], h.th 0⟩
theorem so_refuter (h : sb_D F nR nN nT gg nI φ0 ψ0 Vf Hb rk u nK o s tn pn kp cur φ ψ) (x1 : Int32) : sb_ask F nR nN nT gg nI φ0 ψ0 Vf Hb rk u nK o s tn pn kp cur (sf_refuter F nR nN nT gg φ x1) (mo_refuter F ψ x1) := by
  have H := h.1 u h.2.2.2.1
  have hx := h.2.2.2.2.1
  have hm := h.2.2.2.2.2.1.t 0
  have h12 : (qm_u ψ 0 0 0) 0 12 = 1 := h.2.2.2.2.2.2.2.2.2.2.2.2.1
  rcases sg_guess H hx.1 hm.1 h12 x1 with ⟨g, hg, rfl, e1, e2⟩ | ⟨e1, e2⟩
  · obtain ⟨φ', r1, r2, r3⟩ := sx_least H hx hg
    obtain ⟨ψ', r4, r5, r6⟩ := sm_least H hm hg
    exact ⟨ss_least (Vf u) nI g, φ', ψ', by unfold sf_refuter; simp [qb1, qb2, e1, r1], by unfold mo_refuter; simp [qb1, qb2, e2, r4], h.q r2 r3.g r5 ((sm_h0 ψ 0).trans r6.h)⟩
  · exact ⟨-2, φ, qm_u ψ 0 0 0, by unfold sf_refuter; simp [qb1, e1], by unfold mo_refuter; simp [qb1, e2], h.th 0⟩
theorem so_alike (h : sb_D F nR nN nT gg nI φ0 ψ0 Vf Hb rk u nK o s tn pn kp cur φ ψ) (x1 x2 : Int32) : sb_ask F nR nN nT gg nI φ0 ψ0 Vf Hb rk u nK o s tn pn kp cur (sf_alike F nR nN nT gg φ x1 x2) (mo_alike F ψ x1 x2) := by
  have H := h.1 u h.2.2.2.1
  have hx := h.2.2.2.2.1
  have hm := h.2.2.2.2.2.1.t 0
  have h12 : (qm_u ψ 0 0 0) 0 12 = 1 := h.2.2.2.2.2.2.2.2.2.2.2.2.1
  rcases sg_guess H hx.1 hm.1 h12 x1 with ⟨g, hg, rfl, e1, e2⟩ | ⟨e1, e2⟩
  · rcases sg_guess H hx.1 hm.1 h12 x2 with ⟨i, hi, rfl, e3, e4⟩ | ⟨e3, e4⟩
    · obtain ⟨φ', r1, r2, r3⟩ := sx_alike H hx hg hi
      obtain ⟨ψ', r4, r5, r6⟩ := sm_alike H hm hg hi
      have hb := sp_find01 (fun k => decide (Vf u g k ≠ Vf u i k)) nI 0
      refine ⟨ss_alike (Vf u) nI g i, φ', ψ', ?_, ?_, h.q r2 r3.g r5 ((sm_h0 ψ 0).trans r6.h)⟩
      · unfold sf_alike
        rcases hb with z | z <;> (have z' : ss_alike (Vf u) nI g i = _ := z; simp [qb1, qb2, qg, qm_bz, e1, e3, r1, z'])
      · unfold mo_alike
        rcases hb with z | z <;> (have z' : ss_alike (Vf u) nI g i = _ := z; simp [qb1, qb2, qg, qm_bz, e2, e4, r4, z'])
    · exact ⟨0, φ, qm_u ψ 0 0 0, by unfold sf_alike; simp [qb1, e1, e3], by unfold mo_alike; simp [qb1, e2, e4], h.th 0⟩
  · exact ⟨0, φ, qm_u ψ 0 0 0, by unfold sf_alike; simp [qb1, e1], by unfold mo_alike; simp [qb1, e2], h.th 0⟩
theorem so_by (h : sb_D F nR nN nT gg nI φ0 ψ0 Vf Hb rk u nK o s tn pn kp cur φ ψ) (x1 x2 : Int32) : sb_ask F nR nN nT gg nI φ0 ψ0 Vf Hb rk u nK o s tn pn kp cur (sf_by F nR nN nT gg φ x1 x2) (mo_by F ψ x1 x2) := by
  have H := h.1 u h.2.2.2.1
  have hx := h.2.2.2.2.1
  have hm := h.2.2.2.2.2.1.t 0
  have h12 : (qm_u ψ 0 0 0) 0 12 = 1 := h.2.2.2.2.2.2.2.2.2.2.2.2.1
  have hw : mo_within F (qm_u ψ 0 0 0) (Int32.toInt64 x2) 0 5 = some (if x2 < 0 then 0 else if x2 ≤ 5 then 1 else 0) := by
    rw [show (0 : Int64) = Int32.toInt64 0 from by decide, show (5 : Int64) = Int32.toInt64 5 from by decide, ys_wi]
  rcases sg_guess H hx.1 hm.1 h12 x1 with ⟨g, hg, rfl, e1, e2⟩ | ⟨e1, e2⟩
  · by_cases q1 : x2 < 0
    · exact ⟨-1, φ, qm_u ψ 0 0 0, by unfold sf_by; simp [qb1, e1, q1], by unfold mo_by; simp [qb1, e2, hw, q1], h.th 0⟩
    · by_cases q2 : x2 ≤ 5
      · obtain ⟨φ', r1, r2, r3⟩ := sx_with H hx hg x2
        obtain ⟨ψ', r4, r5, r6⟩ := sm_with H hm hg x2 0
        have q3 : ¬ 5 < x2 := Int32.not_lt.mpr q2
        exact ⟨Int32.ofNat (ss_with (Vf u) nI g x2), φ', ψ', by unfold sf_by; simp [qb1, qb2, e1, q1, q2, q3, r1], by unfold mo_by; simp [qb1, qb2, e2, hw, q1, q2, r4], h.q r2 r3.g r5 ((sm_h0 ψ 0).trans r6.h)⟩
      · have q3 : 5 < x2 := Int32.not_le.mp q2
        exact ⟨-1, φ, qm_u ψ 0 0 0, by unfold sf_by; simp [qb1, e1, q1, q2, q3], by unfold mo_by; simp [qb1, e2, hw, q1, q2], h.th 0⟩
  · exact ⟨-1, φ, qm_u ψ 0 0 0, by unfold sf_by; simp [qb1, e1], by unfold mo_by; simp [qb1, e2], h.th 0⟩
theorem so_refutes (h : sb_D F nR nN nT gg nI φ0 ψ0 Vf Hb rk u nK o s tn pn kp cur φ ψ) (x1 : Int32) : sb_ask F nR nN nT gg nI φ0 ψ0 Vf Hb rk u nK o s tn pn kp cur (sf_refutes F nR nN nT gg φ x1) (mo_refutes F ψ x1) := by
  have H := h.1 u h.2.2.2.1
  have hP := h.2.1
  have hx := h.2.2.2.2.1
  have hm := h.2.2.2.2.2.1.t 0
  have hKx := h.2.2.2.2.2.2.1
  have hKm := h.2.2.2.2.2.2.2.1.t 0
  have h12 : (qm_u ψ 0 0 0) 0 12 = 1 := h.2.2.2.2.2.2.2.2.2.2.2.2.1
  rcases sg_input H hx.1 hm.1 h12 x1 with ⟨i, hi, rfl, e1, e2⟩ | ⟨e1, e2⟩
  · obtain ⟨φ1, m1, m2, m3, m4⟩ := sx_mark (b := fun _ => true) H hP hx hKx (fun _ _ => rfl)
    obtain ⟨φ', r1, r2, r3⟩ := sx_ref H m2 m4 hi
    obtain ⟨ψ', r4, r5, r6⟩ := sm_ref H hP hm hKm hi
    exact ⟨Int32.ofNat (ss_ref (Vf u) gg (ss_left (Vf u) pn Hb kp nK (fun _ => true)) i), φ', ψ', by unfold sf_refutes; simp [qb1, qb2, e1, m1, r1], by unfold mo_refutes; simp [qb1, qb2, e2, r4], h.q r2 (m3.trans r3.g) r5 ((sm_h0 ψ 0).trans r6.h)⟩
  · exact ⟨-1, φ, qm_u ψ 0 0 0, by unfold sf_refutes; simp [qb1, e1], by unfold mo_refutes; simp [qb1, e2], h.th 0⟩
theorem so_many (h : sb_D F nR nN nT gg nI φ0 ψ0 Vf Hb rk u nK o s tn pn kp cur φ ψ) (x1 : Int32) : sb_ask F nR nN nT gg nI φ0 ψ0 Vf Hb rk u nK o s tn pn kp cur (sf_many F nR nN nT gg φ x1) (mo_many F ψ x1) := by
  have H := h.1 u h.2.2.2.1
  have hP := h.2.1
  have hR := h.2.2.1
  have hx := h.2.2.2.2.1
  have hm := h.2.2.2.2.2.1.t 0
  have hKx := h.2.2.2.2.2.2.1
  have hKm := h.2.2.2.2.2.2.2.1.t 0
  have h12 : ψ 0 12 = 1 := h.2.2.2.2.2.2.2.2.2.2.2.2.1
  have hw : mo_within F (qm_u ψ 0 0 0) (Int32.toInt64 x1) 0 5 = some (if x1 < 0 then 0 else if x1 ≤ 5 then 1 else 0) := by
    rw [show (0 : Int64) = Int32.toInt64 0 from by decide, show (5 : Int64) = Int32.toInt64 5 from by decide, ys_wi]
  by_cases q1 : x1 < 0
  · exact ⟨-1, φ, qm_u ψ 0 0 0, by unfold sf_many; simp [q1], by unfold mo_many; simp [qb1, h12, hw, q1], h.th 0⟩
  · obtain ⟨k, hk, rfl⟩ := ya_nat q1
    have c6 : (6 ≤ Int32.ofNat k) ↔ 6 ≤ k := ya_le (a := 6) (by omega) hk
    have c6' : (Int32.ofNat k < 6) ↔ k < 6 := ya_lt (b := 6) hk (by omega)
    have c5 : (Int32.ofNat k ≤ 5) ↔ k ≤ 5 := ya_le (b := 5) hk (by omega)
    have c3 : (Int32.ofNat k < 3) ↔ k < 3 := ya_lt (b := 3) hk (by omega)
    have c3' : (3 ≤ Int32.ofNat k) ↔ 3 ≤ k := ya_le (a := 3) (by omega) hk
    by_cases q6 : 6 ≤ k
    · exact ⟨-1, φ, qm_u ψ 0 0 0, by unfold sf_many; rw [if_neg q1, if_neg (fun z => absurd (c6'.mp z) (by omega))], by unfold mo_many; simp [qb1, h12, hw, q1, c5, show ¬ k ≤ 5 by omega], h.th 0⟩
    · by_cases q3 : k < 3
      · obtain ⟨φ', r1, r2, r3⟩ := sx_count (b := fun _ => true) H hP hx hKx (fun _ _ => rfl) q3
        obtain ⟨ψ', r4, r5, r6⟩ := sm_count H hP hm hKm q3
        exact ⟨Int32.ofNat (sp_cnt (ss_of (Vf u) nI pn Hb kp nK (fun _ => true) k) 0 gg), φ', ψ', by unfold sf_many; simp [qb1, qb2, q1, c6, q6, c3, c3', q3, show ¬ 3 ≤ k by omega, r1], by unfold mo_many; simp [qb1, qb2, h12, hw, q1, c5, c3, c3', q3, show k ≤ 5 by omega, show ¬ 3 ≤ k by omega, r4], h.q r2 r3.g r5 ((sm_h0 ψ 0).trans r6.h)⟩
      · obtain ⟨φ', r1, r2, r3⟩ := sx_first (b := fun _ => true) (w := k - 3) H hP hR hx hKx (fun _ _ => rfl) (by omega)
        obtain ⟨ψ', r4, r5, r6⟩ := sm_first (w := k - 3) H hP hR hm hKm (by omega)
        have es : Int32.ofNat k - 3 = Int32.ofNat (k - 3) := ya_sub (a := k) (b := 3) (by omega)
        refine ⟨ss_first gg (ss_of (Vf u) nI pn Hb kp nK (fun _ => true) (k - 3)) rk, φ', ψ', ?_, ?_, h.q r2 r3.g r5 ((sm_h0 ψ 0).trans r6.h)⟩
        · unfold sf_many
          rw [if_neg q1, if_pos (c6'.mpr (by omega)), if_pos (c3'.mpr (by omega)), es, r1]
          rfl
        · unfold mo_many
          rw [if_neg (by rw [h12]; decide), hw, if_neg q1, if_pos (c5.mpr (by omega))]
          simp only [yb1]
          rw [if_pos (by decide), if_pos (c3'.mpr (by omega)), es, r4]
          rfl
end S4
