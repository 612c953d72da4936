/-! SEMANTICS: a whole sketch, both parsers alike -/
section Y18
variable {F nR n cnt : Nat} {b : Nat → Int32} {T : qm_F} {W : Nat}
theorem yd_lines (hF : 4000 ≤ F) (hK : yk_TK F n cnt b T) : ∀ (m m' i t : Nat) (φ ψ : qm_F) (L : List (Nat × Nat)) (Ib Hb Hr : List Nat) (v : Nat), 2 * cnt + 4 ≤ m + 2 * t → 2 * cnt + 4 ≤ m' + 2 * t → i ≤ t → ys_S n cnt b T t 0 0 0 0 0 L φ ψ → yd_D W Ib Hb Hr v φ ψ → yd_L Ib.length Hb.length v L →
    (∃ φ' ψ' t' L' Ib' Hb' Hr' v', pa_lines_L2 F nR n cnt m 0 φ (Int32.ofNat i) 0 = some (1, φ') ∧ mo_reads_L9 F m' 0 ψ = mo_reads_L50 F F (qm_u ψ' 0 31 (ψ' 0 4)) ∧ ys_S n cnt b T t' 0 0 0 0 0 L' φ' ψ' ∧ yd_D W Ib' Hb' Hr' v' φ' ψ' ∧ yd_L Ib'.length Hb'.length v' L' ∧ (∀ a j, a < 10 → φ' a j = φ a j) ∧ ys_cf ψ ψ') ∨
    (∃ φ' ψ', pa_lines_L2 F nR n cnt m 0 φ (Int32.ofNat i) 0 = some (0, φ') ∧ mo_reads_L9 F m' 0 ψ = some (0, ψ') ∧ ys_bad φ ψ φ' ψ') := by
  have hcn := yk_cn hK
  intro m
  induction m using Nat.strongRecOn with
  | _ m ih =>
    intro m' i t φ ψ L Ib Hb Hr v h1 h2 h3 hS hD hL
    have ht := hS.1
    obtain ⟨m, rfl⟩ : ∃ z, m = z + 2 := ⟨m - 2, by omega⟩
    obtain ⟨m', rfl⟩ : ∃ z, m' = z + 2 := ⟨m' - 2, by omega⟩
    have o1 : (yk_own (T 0 t) = 1 ↔ T 0 t = 129) := yk_own_eq (k := T 0 t) (w := 1) (by omega)
    have o2 : (yk_own (T 0 t) = 2 ↔ T 0 t = 130) := yk_own_eq (k := T 0 t) (w := 2) (by omega)
    have o4 : (yk_own (T 0 t) = 4 ↔ T 0 t = 132) := yk_own_eq (k := T 0 t) (w := 4) (by omega)
    have hx : pa_lines_L2 F nR n cnt (m + 2) 0 φ (Int32.ofNat i) 0 = if T 0 t = 129 then (qb2 (pa_inLine F nR n cnt φ) fun y φ1 => if ¬ y = 0 then pa_lines_L2 F nR n cnt m 0 φ1 (Int32.ofNat (i + 1)) 0 else some (0, φ1)) else if T 0 t = 130 then (qb2 (pa_holeLine F nR n cnt φ) fun y φ1 => if ¬ y = 0 then pa_lines_L2 F nR n cnt m 0 φ1 (Int32.ofNat (i + 1)) 0 else some (0, φ1)) else if T 0 t = 132 then (qb2 (pa_varLine F nR n cnt φ) fun y φ1 => if ¬ y = 0 then pa_lines_L2 F nR n cnt m 0 φ1 (Int32.ofNat (i + 1)) 0 else some (0, φ1)) else some (1, φ) := by
      conv => lhs; unfold pa_lines_L2 to_count
      rw [if_pos rfl, hS.2.1.2.1, yx_kind hS.2.1 ht (by omega) (by omega)]
      simp only [yb1]
      rw [if_neg (by rw [ya_le (by omega) (by omega)]; omega)]
      have tag : ∀ φ1 (y : Int32), pa_lines_L2 F nR n cnt (m + 1) 1 φ1 (Int32.ofNat i) y = if ¬ y = 0 then pa_lines_L2 F nR n cnt m 0 φ1 (Int32.ofNat (i + 1)) 0 else some (0, φ1) := by
        intro φ1 y
        conv => lhs; unfold pa_lines_L2
        rw [if_neg (by omega), ya_add1]
      simp only [tag]
      by_cases q1 : T 0 t = 129
      · rw [if_pos q1, if_pos q1]
      · rw [if_neg q1, if_neg q1]
        by_cases q2 : T 0 t = 130
        · rw [if_pos q2, if_pos q2]
        · rw [if_neg q2, if_neg q2]
          by_cases q4 : T 0 t = 132
          · rw [if_neg (by rw [q4]; decide), if_pos q4]
          · rw [if_neg q4]
            split
            · rfl
            · rfl
    have tagm : ∀ ψ1, mo_reads_L9 F (m' + 1) 1 ψ1 = qb2 (mo_line F ψ1) fun y φ1 => if ¬ y = 0 then mo_reads_L9 F m' 0 φ1 else some (0, φ1) := by
      intro ψ1
      conv => lhs; unfold mo_reads_L9
      rw [if_neg (by omega)]
    have hm : mo_reads_L9 F (m' + 2) 0 ψ = if T 0 t = 129 ∨ T 0 t = 130 ∨ T 0 t = 132 then (qb2 (mo_line F ψ) fun y φ1 => if ¬ y = 0 then mo_reads_L9 F m' 0 φ1 else some (0, φ1)) else mo_reads_L50 F F (qm_u ψ 0 31 (ψ 0 4)) := by
      conv => lhs; unfold mo_reads_L9
      rw [if_pos rfl, ym_own hK hS.2.2.1 ht]
      simp only [yb1, tagm]
      by_cases q1 : T 0 t = 129
      · rw [if_pos (o1.mpr q1), if_pos (Or.inl q1)]
      · rw [if_neg (fun z => q1 (o1.mp z))]
        by_cases q2 : T 0 t = 130
        · rw [if_pos (o2.mpr q2), if_pos (Or.inr (Or.inl q2))]
        · rw [if_neg (fun z => q2 (o2.mp z))]
          by_cases q4 : T 0 t = 132
          · rw [if_neg (by simp [o4.mpr q4]), if_pos (Or.inr (Or.inr q4))]
          · rw [if_pos (fun z => q4 (o4.mp z)), if_neg (by simp [q1, q2, q4])]
    have go : ∀ lx : Option (Int32 × qm_F), yd_cl n cnt b T W φ ψ t lx (mo_line F ψ) → pa_lines_L2 F nR n cnt (m + 2) 0 φ (Int32.ofNat i) 0 = (qb2 lx fun y φ1 => if ¬ y = 0 then pa_lines_L2 F nR n cnt m 0 φ1 (Int32.ofNat (i + 1)) 0 else some (0, φ1)) → mo_reads_L9 F (m' + 2) 0 ψ = (qb2 (mo_line F ψ) fun y φ1 => if ¬ y = 0 then mo_reads_L9 F m' 0 φ1 else some (0, φ1)) →
      (∃ φ' ψ' t' L' Ib' Hb' Hr' v', pa_lines_L2 F nR n cnt (m + 2) 0 φ (Int32.ofNat i) 0 = some (1, φ') ∧ mo_reads_L9 F (m' + 2) 0 ψ = mo_reads_L50 F F (qm_u ψ' 0 31 (ψ' 0 4)) ∧ ys_S n cnt b T t' 0 0 0 0 0 L' φ' ψ' ∧ yd_D W Ib' Hb' Hr' v' φ' ψ' ∧ yd_L Ib'.length Hb'.length v' L' ∧ (∀ a j, a < 10 → φ' a j = φ a j) ∧ ys_cf ψ ψ') ∨
      (∃ φ' ψ', pa_lines_L2 F nR n cnt (m + 2) 0 φ (Int32.ofNat i) 0 = some (0, φ') ∧ mo_reads_L9 F (m' + 2) 0 ψ = some (0, ψ') ∧ ys_bad φ ψ φ' ψ') := by
      intro lx hc ex em
      rcases hc with ⟨φ1, ψ1, t1, L1, Ib1, Hb1, Hr1, v1, e1, e2, l1, S1, D1, L1', f1, g1⟩ | ⟨φ1, ψ1, e1, e2, hbad⟩
      · rw [e1] at ex
        rw [e2] at em
        simp only [yb2] at ex em
        rw [if_pos (by decide)] at ex em
        rcases ih m (by omega) m' (i + 1) t1 φ1 ψ1 L1 Ib1 Hb1 Hr1 v1 (by omega) (by omega) (by omega) S1 D1 L1' with ⟨φ2, ψ2, t2, L2, Ib2, Hb2, Hr2, v2, e3, e4, S2, D2, L2', f2, g2⟩ | ⟨φ2, ψ2, e3, e4, hbad⟩
        · exact Or.inl ⟨φ2, ψ2, t2, L2, Ib2, Hb2, Hr2, v2, ex.trans e3, em.trans e4, S2, D2, L2', fun a j ha => (f2 a j ha).trans (f1 a j ha), g1.trans g2⟩
        · exact Or.inr ⟨φ2, ψ2, ex.trans e3, em.trans e4, hbad.pre (fun a j ha => f1 a j (by omega)) g1⟩
      · rw [e1] at ex
        rw [e2] at em
        simp only [yb2] at ex em
        rw [if_neg (by decide)] at ex em
        exact Or.inr ⟨φ1, ψ1, ex, em, hbad⟩
    by_cases q1 : T 0 t = 129
    · rw [if_pos q1] at hx
      rw [if_pos (Or.inl q1)] at hm
      exact go _ (yd_in (nR := nR) (by omega) hK hS hD hL q1) hx hm
    · rw [if_neg q1] at hx
      by_cases q2 : T 0 t = 130
      · rw [if_pos q2] at hx
        rw [if_pos (Or.inr (Or.inl q2))] at hm
        exact go _ (yd_hole (nR := nR) (by omega) hK hS hD hL q2) hx hm
      · rw [if_neg q2] at hx
        by_cases q4 : T 0 t = 132
        · rw [if_pos q4] at hx
          rw [if_pos (Or.inr (Or.inr q4))] at hm
          exact go _ (yd_var (nR := nR) (by omega) hK hS hD hL q4) hx hm
        · rw [if_neg q4] at hx
          rw [if_neg (by simp [q1, q2, q4])] at hm
          exact Or.inl ⟨φ, ψ, t, L, Ib, Hb, Hr, v, hx, hm, hS, hD, hL, fun _ _ _ => rfl, ys_cf0 _⟩
/-- a sketch as both hold it when it has been read -/
def yw_P (cnt : Nat) (T : qm_F) (fs ns : Nat) (W : Nat) (Ib Hb Hr : List Nat) (v : Nat) (φ ψ : qm_F) : Prop :=
  yd_D W Ib Hb Hr v φ ψ ∧ ns ≤ 24 ∧ φ 14 4 = Int32.ofNat ns ∧ ψ 2 11 = Int32.ofNat ns ∧
  (∃ M p r, M ≤ 800 ∧ YL (ys_Z φ ψ) (ys_T ψ) M 0 0 ns 0 p ∧ yl_E (ys_Z φ ψ) M (ψ 9 1) (ψ 10 1) p r ∧ φ 20 r = 14 ∧ φ 14 13 = Int32.ofNat (r + 1) ∧ r + 1 ≤ cnt) ∧
  φ 14 17 = Int32.ofNat fs ∧ ψ 0 31 = T 1 fs ∧ fs < cnt ∧ T 0 (cnt - 1) = 0 ∧ (∀ s, fs ≤ s → s < cnt - 1 → ye_mk T ψ φ s) ∧ φ 4 5 = Int32.ofNat cnt ∧
  (∀ k, k < 5 → ψ 3 (18 + k) = 0 ∨ (k < Hb.length ∧ ∃ p, p < cnt ∧ T 0 p = 97 ∧ ψ 3 (18 + k) = T 4 p)) ∧ (∀ k k', k < 5 → k' < 5 → ψ 3 (18 + k) = ψ 3 (18 + k') → ψ 3 (18 + k) ≠ 0 → k = k')
theorem yw_names {φ ψ : qm_F} {L : List (Nat × Nat)} {i h v : Nat} (hK : yk_TK F n cnt b T) (hN : yn_NM cnt T L φ ψ) (hL : yd_L i h v L) (hi : i ≤ 3) (hh : h ≤ 5) :
    (∀ k, k < 5 → ψ 3 (18 + k) = 0 ∨ (k < h ∧ ∃ p, p < cnt ∧ T 0 p = 97 ∧ ψ 3 (18 + k) = T 4 p)) ∧ (∀ k k', k < 5 → k' < 5 → ψ 3 (18 + k) = ψ 3 (18 + k') → ψ 3 (18 + k) ≠ 0 → k = k') := by
  have key : ∀ k, k < 5 → ψ 3 (18 + k) = 0 ∨ (k < h ∧ ∃ (j : Nat) (p : Nat × Nat), L[j]? = some p ∧ p.1 = 3 + k ∧ p.2 < cnt ∧ T 0 p.2 = 97 ∧ ψ 3 (18 + k) = T 4 p.2) := by
    intro k hk
    by_cases q : ∃ p, p ∈ L ∧ p.1 = 3 + k
    · obtain ⟨p, hp, e⟩ := q
      obtain ⟨j, hj⟩ := List.getElem?_of_mem hp
      obtain ⟨-, -, -, n4, n5, n6⟩ := hN.2.2.1 j p hj
      have := hL.1 p hp
      refine Or.inr ⟨by omega, j, p, hj, e, n4, n5, ?_⟩
      rw [← n6, e, show 15 + (3 + k) = 18 + k by omega]
    · left
      have := hN.2.2.2.1 (3 + k) (by omega) (fun p hp e => q ⟨p, hp, e⟩)
      rw [show 15 + (3 + k) = 18 + k by omega] at this
      exact this
  refine ⟨fun k hk => ?_, fun k k' hk hk' e ne => ?_⟩
  · rcases key k hk with z | ⟨z, j, p, -, -, z4, z5, z6⟩
    · exact Or.inl z
    · exact Or.inr ⟨z, p.2, z4, z5, z6⟩
  · rcases key k hk with z | ⟨z, j, p, z1, z2, z4, z5, z6⟩
    · exact absurd z ne
    · rcases key k' hk' with w | ⟨w, j', p', w1, w2, w4, w5, w6⟩
      · rw [w] at e; exact absurd e ne
      · have e4 : T 4 p.2 = T 4 p'.2 := by rw [← z6, ← w6]; exact e
        obtain ⟨-, -, -, -, -, -, -, k8, -⟩ := hK
        have e3 := (k8 p.2 p'.2 z4 w4 z5 w5).mpr e4
        have := hN.2.2.2.2 j j' p p' z1 w1 (Or.inl e3)
        subst this
        rw [z1] at w1
        have := Option.some.inj w1
        subst this
        omega
theorem yw_spec (hF : 4000 ≤ F) (hK : yk_TK F n cnt b T) {φ ψ : qm_F} {t sz cd ns m : Nat} {L : List (Nat × Nat)} (hS : ys_S n cnt b T t sz cd ns 0 0 L φ ψ) (hnb : ¬ ys_beg (T 0 t)) (hsz : sz ≤ t) (hcd : cd ≤ t) :
    (∃ φ' ψ' tE len, pa_spec F nR n cnt φ = some (1, φ') ∧ mo_reads_L50 F (m + 1) ψ = (if ¬ (ψ' 0 6) = 0 then mo_reads_L134 F ψ' 0 else mo_reads_L134 F ψ' 1) ∧ ys_S n cnt b T tE (sz + len + 1) (cd + len) ns 0 0 L φ' ψ' ∧ ys_fx L.length t sz φ φ' ∧ (∀ a j, ¬ (a = 0 ∧ (4 ≤ j ∧ j ≤ 11 ∨ j = 21 ∨ j = 28)) → ¬ ((a = 7 ∨ a = 8) ∧ 800 + cd ≤ j) → ¬ ((a = 9 ∨ a = 10) ∧ j = 1) → ψ' a j = ψ a j) ∧ (∀ s, t ≤ s → s < tE → ye_mk T ψ φ' s) ∧ yl_E (ys_Z φ' ψ') (cd + len) (ψ' 9 1) (ψ' 10 1) sz (sz + len) ∧ φ' 20 (sz + len) = 14 ∧ t + 2 ≤ tE ∧ t + len + 2 ≤ tE) ∨
    (∃ φ' ψ', pa_spec F nR n cnt φ = some (0, φ') ∧ mo_reads_L50 F (m + 1) ψ = some (0, ψ') ∧ ys_bad φ ψ φ' ψ') := by
  have hcn := yk_cn hK
  have ht := hS.1
  have o12 : (yk_own (T 0 t) = 12 ↔ T 0 t = 140) := yk_own_eq (k := T 0 t) (w := 12) (by omega)
  by_cases q : T 0 t = 140
  · obtain ⟨ψ1, e1, S1, f1⟩ := ys_next hK hS (by rw [q]; decide) (by rw [q]; decide)
    have h' := S1
    obtain ⟨a1, a2, ⟨⟨c1, c2⟩, ⟨d1, d2, d3, d4, d5⟩, c3, c4, c5⟩, a4, a5, a6, a7, a8, a9, a10⟩ := h'
    obtain ⟨ψ2, e2⟩ : ∃ ψ2, ψ2 = qm_u (qm_u ψ1 0 28 0) 9 1 (Int32.ofNat cd) := ⟨_, rfl⟩
    have f2 : ∀ a j, ¬ (a = 0 ∧ j = 28) → ¬ (a = 9 ∧ j = 1) → ψ2 a j = ψ1 a j := by
      intro a j x1 x2
      rw [e2]
      unfold qm_u
      repeat' split
      all_goals first | rfl | omega
    have hp : ye_pre n cnt b T L 0 (qm_u φ 10 3 (Int32.ofNat (t + 1))) ψ2 (t + 1) sz cd := by
      refine ⟨a2, ?_, by rw [e2]; rfl, a4.fr (fun _ _ _ => rfl) (fun j _ => f2 3 j (by omega) (by omega)), a1, by omega, by omega⟩
      rw [e2]
      exact ⟨⟨c1, c2⟩, ⟨d1, d2, d3, d4, d5⟩, c3, c4, c5⟩
    have hx : pa_spec F nR n cnt φ = (qb2 (pa_endedBy F nR n cnt (qm_u φ 10 3 (Int32.ofNat (t + 1))) 14 0) fun y2 φ2 => if y2 = 0 then some (0, φ2) else some (1, φ2)) := by
      unfold pa_spec
      rw [yx_take hS.2.1 ht (by omega) (by omega), if_pos q]
      rfl
    have hm : mo_reads_L50 F (m + 1) ψ = qb2 (qb2 (mg_E F 79 1 ψ2 0 0) fun y1 φ1 => qg (qm_bz y1) (some (y1, φ1))) fun y2 φ2 => if ¬ y2 = 0 then qg (qm_in (φ2 0 13) 2) <| qb2 (mo_takesSign F (qm_u φ2 10 ((φ2 0 13).toNatClampNeg) (φ2 0 21)) 59) fun y3 φ3 => if y3 = 0 then some (0, φ3) else if ¬ (φ3 0 6) = 0 then mo_reads_L134 F φ3 0 else mo_reads_L134 F φ3 1 else some (0, φ2) := by
      conv => lhs; unfold mo_reads_L50
      rw [ym_own hK hS.2.2.1 ht]
      simp only [yb1]
      rw [if_pos (o12.mpr q), e1]
      simp only [yb1]
      rw [c4, c5, show qm_in 1 2 = true by decide, show (1 : Int32).toNatClampNeg = 1 by decide, ← e2]
      rfl
    rw [hx, hm]
    unfold pa_endedBy
    rcases ye_E (nR := nR) (mx := 80) (mm := 79) (by omega) hK (by omega) (by omega) hp with ⟨φ3, ψ3, t3, len, x1, x2, l1, l2, ac⟩ | ⟨φ3, ψ3, x1, x2, hb⟩
    · rw [x1, x2]
      simp only [yb2, yg01, yg1]
      rw [if_neg (by decide), if_pos (by decide)]
      obtain ⟨b1, b2, b3, b4, b5, b6, b7, b8, b9, b10⟩ := ac
      rw [b4.2.2.2.1, show qm_in 1 2 = true by decide, show (1 : Int32).toNatClampNeg = 1 by decide, b4.2.2.2.2]
      simp only [yg1]
      have hn : yn_NM cnt T L φ3 ψ3 := hp.2.2.2.1.fr (fun a j ha => b6 a j (by omega) (by omega) (by omega) (by omega)) (fun j hj => b7 3 j (by omega) (by omega))
      have f3 : ∀ a j, ¬ (a = 0 ∧ (4 ≤ j ∧ j ≤ 10 ∨ j = 21 ∨ j = 28)) → ¬ ((a = 7 ∨ a = 8) ∧ 800 + cd ≤ j) → ¬ (a = 9 ∧ j = 1) → ψ3 a j = ψ1 a j := by
        intro a j y1 y2 y3
        rw [b7 a j (by omega) (by omega), f2 a j (by omega) (by omega)]
      have S3 : ys_S n cnt b T t3 (sz + len) (cd + len) ns 0 0 L φ3 ψ3 := ⟨b2, b3, b4, hn, by rw [b6 14 4 (by omega) (by omega) (by omega) (by omega)]; exact a5, by rw [f3 _ _ (by omega) (by omega) (by omega)]; exact a6, by rw [f3 _ _ (by omega) (by omega) (by omega)]; exact a7, by rw [f3 _ _ (by omega) (by omega) (by omega)]; exact a8, a9, a10⟩
      have u10 : ∀ a j, ¬ (a = 10 ∧ j = 1) → (qm_u ψ3 10 1 (Int32.ofNat (cd + len))) a j = ψ3 a j := by
        intro a j hh
        unfold qm_u
        repeat' split
        all_goals first | rfl | omega
      have S4 : ys_S n cnt b T t3 (sz + len) (cd + len) ns 0 0 L φ3 (qm_u ψ3 10 1 (Int32.ofNat (cd + len))) := S3.cg (fun _ _ _ => rfl) (fun a j hh => u10 a j (by omega))
      have fx3 : ys_fx L.length t sz φ φ3 := ((ys_xgx (φ := φ) (t + 1)).fx L.length t sz).trans ((show ye_fx (t + 1) sz _ φ3 from b6).ys L.length) (Nat.le_refl _) (by omega) (Nat.le_refl _)
      have mk0 : ye_mk T ψ φ t := ⟨fun z => by rw [q] at z; exact absurd z (by decide), fun _ => hS.2.1.2.2.1 t (Nat.le_refl _) ht⟩
      rcases ys_takes (nR := nR) hK S4 59 (by decide) with ⟨q59, φ5, ψ5, x3, x4, S5, gx5, gm5⟩ | ⟨q59, φ5, ψ5, x3, x4, hb⟩
      · rw [x3, x4]
        simp only [yb2]
        rw [if_pos (by decide), if_neg (by decide)]
        have ht5 := S5.1
        obtain ⟨φ6, x5, S6, ex6, r1, r2, r3⟩ := ys_emit (nR := nR) hK S5 (by omega) 14 0 0
        rw [x5]
        simp only [yb2]
        rw [if_neg (by decide)]
        refine Or.inl ⟨φ6, ψ5, t3 + 1, len, rfl, rfl, S6, ?_, ?_, ?_, ?_, r1, by omega, by omega⟩
        · exact (fx3.trans (gx5.fx L.length t3 (sz + len)) (Nat.le_refl _) (by omega) (by omega)).trans (ex6.fx L.length t3 (Nat.le_refl _)) (Nat.le_refl _) (by omega) (by omega)
        · intro a j y1 y2 y3
          rw [gm5 a j (by omega), u10 a j (by omega), f3 a j (by omega) y2 (by omega), f1 a j (by omega)]
        · intro s h1 h2
          by_cases z : s = t
          · subst z
            refine mk0.fr ?_ ?_ (fun _ _ => rfl)
            · rw [ex6 6 s (by omega) (by omega), gx5 6 s (by omega), b6 6 s (by omega) (by omega) (by omega) (by omega)]; rfl
            · rw [ex6 9 s (by omega) (by omega), gx5 9 s (by omega), b6 9 s (by omega) (by omega) (by omega) (by omega)]; rfl
          · by_cases z2 : s < t3
            · refine (b10 s (by omega) z2).fr ?_ ?_ (fun k hk => ?_)
              · rw [ex6 6 s (by omega) (by omega), gx5 6 s (by omega)]
              · rw [ex6 9 s (by omega) (by omega), gx5 9 s (by omega)]
              · rw [f2 3 _ (by omega) (by omega), f1 3 _ (by omega)]
            · have : s = t3 := by omega
              subst this
              have hx3 := b3.2.2.1 s (Nat.le_refl _) b2
              exact ⟨fun z => by rw [q59] at z; exact absurd z (by decide), fun _ => by rw [ex6 6 s (by omega) (by omega), gx5 6 s (by omega), ex6 9 s (by omega) (by omega), gx5 9 s (by omega)]; exact hx3⟩
        · have h91 : ψ5 9 1 = Int32.ofNat cd := by
            rw [gm5 9 1 (by omega), u10 9 1 (by omega), b7 9 1 (by omega) (by omega), e2]
            simp [qm_u]
          have h101 : ψ5 10 1 = Int32.ofNat (cd + len) := by
            rw [gm5 10 1 (by omega)]
            simp only [qm_u, if_true]
          refine ⟨cd, len, Nat.le_refl _, h91, h101, rfl, fun i hi => ?_, ?_⟩
          · have := b8 i hi
            show ye_cm (ψ5 7 _) (ψ5 8 _) (φ6 20 _) (φ6 21 _)
            rw [gm5 7 _ (by omega), gm5 8 _ (by omega), u10 7 _ (by omega), u10 8 _ (by omega), ex6 20 _ (by omega) (by omega), ex6 21 _ (by omega) (by omega), gx5 20 _ (by omega), gx5 21 _ (by omega)]
            exact this
          · rw [← b9 0 (by omega)]
            refine ye_hs_cg _ _ _ (fun i _ _ => ?_)
            show ψ5 7 _ = ψ3 7 _
            rw [gm5 7 _ (by omega), u10 7 _ (by omega)]
      · rw [x3, x4]
        simp only [yb2]
        rw [if_neg (by decide), if_pos (by first | trivial | decide)]
        refine Or.inr ⟨φ5, ψ5, rfl, rfl, hb.pre fx3.lo (fun a j h1 h2 h3 h4 h5 h6 => ?_)⟩
        rw [u10 a j (by omega), f3 a j (by omega) (by omega) (by omega), f1 a j (by omega)]
    · rw [x1, x2]
      simp only [yb2, yg0, yg1, if_true, not_true_eq_false, if_false]
      obtain ⟨b1, b2, b3, b4⟩ := hb
      refine Or.inr ⟨φ3, ψ3, rfl, rfl, b1, b2, fun a j x => ?_, fun a j y1 y2 y3 y4 y5 y6 => ?_⟩
      · rw [b3 a j (by omega) (by omega) (by omega) (by omega), ys_xgx _ a j (by omega)]
      · rw [b4 a j (by omega) (by omega), f2 a j (by omega) (by omega), f1 a j (by omega)]
  · refine Or.inr ⟨_, _, ?_, ?_, ys_fault (f := 1) hS (by decide) (ys_lo0 _) (ys_cf0 _)⟩
    · unfold pa_spec
      rw [yx_take hS.2.1 ht (by omega) (by omega), if_neg q]
      rfl
    · unfold mo_reads_L50
      rw [ym_own hK hS.2.2.1 ht]
      simp only [yb1]
      rw [if_neg (fun z => q (o12.mp z)), show mg_S F 40 1 ψ 0 0 = mo_statementHere F (mg_S F 39) ψ from rfl, ys_nost hK hS hnb]
      rfl
/-- a whole sketch -/
theorem yw_whole (hF : 4000 ≤ F) (hK : yk_TK F n cnt b T) {φ ψ : qm_F} (hS : ys_S n cnt b T 0 0 0 0 0 0 [] φ ψ) (x0 : ∀ j, j = 1 ∨ j = 2 ∨ j = 3 ∨ j = 5 ∨ j = 6 → φ 14 j = 0) (y0 : ∀ j, 7 ≤ j → j ≤ 13 → ψ 2 j = 0) :
    (∃ φ' ψ' fs ns W Ib Hb Hr v, pa_wholeSketch F nR n cnt φ = some (1, φ') ∧ mo_reads F ψ = some (1, ψ') ∧ yw_P cnt T fs ns W Ib Hb Hr v φ' ψ' ∧ (∀ a j, a < 4 ∨ a = 5 ∨ a = 7 ∨ a = 8 → φ' a j = φ a j) ∧ ys_cf ψ ψ') ∨
    (∃ φ' ψ', pa_wholeSketch F nR n cnt φ = some (0, φ') ∧ mo_reads F ψ = some (0, ψ') ∧ ys_bad φ ψ φ' ψ') := by
  have hcn := yk_cn hK
  unfold pa_wholeSketch mo_reads mo_begins
  rcases ys_own (nR := nR) hK hS 0 (by omega) with ⟨q0, φ1, ψ1, e1, e2, S1, gx1, gm1⟩ | ⟨q0, φ1, ψ1, e1, e2, hb⟩
  · rw [show pa_take F nR n cnt φ 128 = _ from e1, show mo_takesOwn F ψ 0 = _ from e2]
    simp only [yb2]
    rw [if_neg (by decide), if_neg (by decide)]
    rcases ys_num (nR := nR) hK S1 1 16 (by omega) (by omega) with ⟨W, φ2, ψ2, q48, e3, w1, w2, e4, e5, S2, gx2, gm2, v1, v2⟩ | ⟨φ2, ψ2, e4, e5, hb⟩
    · rw [show pa_takeNumber F nR n cnt φ1 1 16 = _ from e4, show mo_takesNumber F ψ1 1 16 = _ from e5]
      simp only [yb2]
      rw [if_pos (by decide), if_pos (by decide), v1, v2, show mo_tells F ψ2 0 _ = _ from yd_tells (i := 0) S2.2.2.1.2.2.2.1 (by omega) (Int32.ofNat W)]
      simp only [yb1]
      have S3 : ys_S n cnt b T (0 + 1 + 1) 0 0 0 0 0 [] (qm_u φ2 14 0 (Int32.ofNat W)) (qm_u ψ2 2 (7 + 0) (Int32.ofNat W)) := S2.cg (fun a j hh => by
        unfold qm_u
        repeat' split
        all_goals first | rfl | omega) (fun a j hh => by
        unfold qm_u
        repeat' split
        all_goals first | rfl | omega)
      have fx2 : ∀ a j, a ≠ 10 → ¬ (a = 14 ∧ j = 0) → (qm_u φ2 14 0 (Int32.ofNat W)) a j = φ a j := by
        intro a j h1 h2
        rw [← gx1 a j (by omega), ← gx2 a j (by omega)]
        unfold qm_u
        repeat' split
        all_goals first | rfl | omega
      have fm2 : ∀ a j, ¬ (a = 0 ∧ 4 ≤ j ∧ j ≤ 11) → ¬ (a = 2 ∧ j = 7) → (qm_u ψ2 2 (7 + 0) (Int32.ofNat W)) a j = ψ a j := by
        intro a j h1 h2
        rw [← gm1 a j (by omega), ← gm2 a j (by omega)]
        unfold qm_u
        repeat' split
        all_goals first | rfl | omega
      have cf2 : ys_cf ψ (qm_u ψ2 2 (7 + 0) (Int32.ofNat W)) := fun a j h1 h2 h3 h4 h5 h6 => fm2 a j (by omega) (by omega)
      have lo2 : ys_lo φ (qm_u φ2 14 0 (Int32.ofNat W)) := fun a j ha => fx2 a j (by omega) (by omega)
      rcases ys_takes (nR := nR) hK S3 59 (by decide) with ⟨q59, φ4, ψ4, e6, e7, S4, gx4, gm4⟩ | ⟨q59, φ4, ψ4, e6, e7, hb⟩
      · rw [e6, e7]
        simp only [yb2, yg01, yg1]
        rw [if_neg (by decide), if_pos (by decide)]
        have D4 : yd_D W [] [] [] 0 φ4 ψ4 := by
          refine ⟨⟨w1, w2, by simp, by simp, rfl, by omega, by simp, by simp, by simp, by simp, by simp⟩, ⟨?_, ?_, ?_, ?_, ?_, ?_⟩, ⟨?_, ?_, ?_, ?_, ?_, ?_⟩, by simp, by simp, by simp⟩
          · rw [gx4 14 0 (by omega)]; simp [qm_u]
          · rw [gx4 14 1 (by omega), fx2 14 1 (by omega) (by omega)]; exact x0 1 (by omega)
          · rw [gx4 14 2 (by omega), fx2 14 2 (by omega) (by omega)]; exact x0 2 (by omega)
          · rw [gx4 14 3 (by omega), fx2 14 3 (by omega) (by omega)]; exact x0 3 (by omega)
          · rw [gx4 14 5 (by omega), fx2 14 5 (by omega) (by omega)]; exact x0 5 (by omega)
          · rw [gx4 14 6 (by omega), fx2 14 6 (by omega) (by omega)]; exact x0 6 (by omega)
          · rw [gm4 2 7 (by omega)]; simp [qm_u]
          · rw [gm4 2 8 (by omega), fm2 2 8 (by omega) (by omega)]; exact y0 8 (by omega) (by omega)
          · rw [gm4 2 9 (by omega), fm2 2 9 (by omega) (by omega)]; exact y0 9 (by omega) (by omega)
          · rw [gm4 2 10 (by omega), fm2 2 10 (by omega) (by omega)]; exact y0 10 (by omega) (by omega)
          · rw [gm4 2 12 (by omega), fm2 2 12 (by omega) (by omega)]; exact y0 12 (by omega) (by omega)
          · rw [gm4 2 13 (by omega), fm2 2 13 (by omega) (by omega)]; exact y0 13 (by omega) (by omega)
        unfold pa_lines
        rcases yd_lines (nR := nR) hF hK F F 0 (0 + 1 + 1 + 1) φ4 ψ4 [] [] [] [] 0 (by omega) (by omega) (by omega) S4 D4 ⟨by simp, rfl⟩ with ⟨φ5, ψ5, t5, L5, Ib, Hb, Hr, v, e8, e9, S5, D5, L5', f5, g5⟩ | ⟨φ5, ψ5, e8, e9, hb⟩
        · rw [show pa_lines_L2 F nR n cnt F 0 φ4 0 0 = _ from e8, e9]
          simp only [yb2]
          rw [if_pos (by decide), S5.2.1.1, S5.2.2.1.2.1.1]
          obtain ⟨φ6, e10⟩ : ∃ φ6, φ6 = qm_u φ5 14 17 (Int32.ofNat t5) := ⟨_, rfl⟩
          obtain ⟨ψ6, e11⟩ : ∃ ψ6, ψ6 = qm_u ψ5 0 31 (T 1 t5) := ⟨_, rfl⟩
          have fx6 : ∀ a j, ¬ (a = 14 ∧ j = 17) → φ6 a j = φ5 a j := by
            intro a j hh
            rw [e10]
            unfold qm_u
            repeat' split
            all_goals first | rfl | omega
          have fm6 : ∀ a j, ¬ (a = 0 ∧ j = 31) → ψ6 a j = ψ5 a j := by
            intro a j hh
            rw [e11]
            unfold qm_u
            repeat' split
            all_goals first | rfl | omega
          rw [← e10, ← e11]
          have S6 : ys_S n cnt b T t5 0 0 0 0 0 L5 φ6 ψ6 := S5.cg (fun a j hh => fx6 a j (by omega)) (fun a j hh => fm6 a j (by omega))
          have ht5 := S5.1
          have u1 : cg_S F nR n cnt 40 0 φ6 0 0 = pa_block_L2 F nR n cnt (cg_S F nR n cnt 39) F φ6 (Int32.ofNat 0) (Int32.ofNat 0) (Int32.ofNat 0) := rfl
          rw [u1]
          have lo6 : ys_lo φ φ6 := fun a j ha => by rw [fx6 a j (by omega), f5 a j (by omega), gx4 a j (by omega)]; exact lo2 a j ha
          have cf6 : ys_cf ψ ψ6 := fun a j h1 h2 h3 h4 h5 h6 => by
            rw [fm6 a j (by omega), g5 a j h1 h2 h3 h4 h5 h6, gm4 a j (by omega)]; exact cf2 a j h1 h2 h3 h4 h5 h6
          rcases ys_blk (nR := nR) (L := L5) (br := 0) (lt := 0) hK (ys_all (nR := nR) (by omega) hK 4 0 (by omega) 0 L5 39 40 (by omega) (by omega) (by omega)) (mo_reads_L50 F) (fun m t cd ψ hM ht hbg => by
              conv => lhs; unfold mo_reads_L50
              have h12 : ¬ yk_own (T 0 t) = 12 := by
                intro z
                have z2 : T 0 t = 140 := (yk_own_eq (k := T 0 t) (w := 12) (by omega)).mp z
                unfold ys_beg at hbg
                rw [z2] at hbg
                exact absurd hbg (by decide)
              rw [ym_own hK hM ht]
              simp only [yb1]
              rw [if_neg h12]) F F 0 t5 0 0 0 φ6 ψ6 (by omega) (by omega) (by omega) S6 (by omega) (by omega) (by omega) with ⟨φ7, ψ7, t7, sz7, cd7, ns7, m7, z1, z2, z3, z4, hG, k1, k2, k3, k4, hY⟩ | ⟨φ7, ψ7, z1, z2, hb⟩
          · rw [z1, z2]
            simp only [yb2]
            rw [if_neg (by decide)]
            obtain ⟨S7, g2, g3, g4, g55, g6, g7⟩ := hG
            have ht7 := S7.1
            obtain ⟨m7, rfl⟩ : ∃ z, m7 = z + 1 := ⟨m7 - 1, by omega⟩
            rcases yw_spec (nR := nR) (m := m7) hF hK S7 z4 (by omega) (by omega) with ⟨φ8, ψ8, tE, len, e12, e13, S8, fx8, fm8, mk8, hE8, r8, l1, l2⟩ | ⟨φ8, ψ8, e12, e13, hb⟩
            · rw [e12, e13]
              simp only [yb2]
              rw [if_neg (by decide), yx_take S8.2.1 S8.1 (by omega) (by omega)]
              have htE := S8.1
              unfold mo_reads_L134
              by_cases qE : T 0 tE = 0
              · rw [if_pos qE, if_neg (by rw [S8.2.2.1.2.1.2.2.1, qE]; decide), ym_must1 S8.2.2.1]
                simp only [yb2]
                rw [if_neg (by decide)]
                have hcE : tE + 1 = cnt := by
                  obtain ⟨-, -, -, kk4, -⟩ := hK
                  exact (kk4 tE htE).mp (Or.inl qE)
                have hlast : cnt - 1 = tE := by omega
                refine Or.inl ⟨_, ψ8, t5, ns7, W, Ib, Hb, Hr, v, rfl, rfl, ⟨?_, k4, ?_, ?_, ⟨cd7 + len, sz7, sz7 + len, by omega, ?_, ?_, ?_, ?_, by omega⟩, ?_, ?_, ht5, by rw [hlast]; exact qE, ?_, ?_, ?_⟩, ?_, ?_⟩
                · -- what the lines told stays
                  have fx : ∀ a j, (a = 14 ∧ (j ≤ 3 ∨ j = 5 ∨ j = 6)) ∨ a = 15 ∨ a = 16 ∨ a = 17 → (qm_u φ8 10 3 (Int32.ofNat (tE + 1))) a j = φ5 a j := fun a j ha => by
                    rw [ys_xgx _ a j (by omega), fx8 a j (by omega) (by omega) (by omega) (by omega) (by omega) (by omega), g2 a j (by omega) (by omega) (by omega) (by omega) (by omega) (by omega), fx6 a j (by omega)]
                  have fm : ∀ a j, (a = 2 ∧ j ≠ 11) ∨ a = 4 ∨ a = 5 → ψ8 a j = ψ5 a j := fun a j ha => by
                    rw [fm8 a j (by omega) (by omega) (by omega), g3 a j (by omega) (by omega) (by omega) (by omega) (by omega), fm6 a j (by omega)]
                  obtain ⟨p1, ⟨a1, a2, a3, a4, a5, a6⟩, ⟨b1, b2, b3, b4, b5, b6⟩, d1, d2, d3⟩ := D5
                  refine ⟨p1, ⟨by rw [fx 14 0 (by omega)]; exact a1, by rw [fx 14 1 (by omega)]; exact a2, by rw [fx 14 2 (by omega)]; exact a3, by rw [fx 14 3 (by omega)]; exact a4, by rw [fx 14 5 (by omega)]; exact a5, by rw [fx 14 6 (by omega)]; exact a6⟩, ⟨by rw [fm 2 7 (by omega)]; exact b1, by rw [fm 2 8 (by omega)]; exact b2, by rw [fm 2 9 (by omega)]; exact b3, by rw [fm 2 10 (by omega)]; exact b4, by rw [fm 2 12 (by omega)]; exact b5, by rw [fm 2 13 (by omega)]; exact b6⟩, fun k x hx => ?_, fun k x hx => ?_, fun k x hx => ?_⟩
                  · rw [fx 15 k (by omega), fm 4 _ (by omega)]; exact d1 k x hx
                  · rw [fx 16 k (by omega), fm 4 _ (by omega)]; exact d2 k x hx
                  · rw [fx 17 k (by omega), fm 5 _ (by omega)]; exact d3 k x hx
                · exact S8.2.2.2.2.1
                · exact S8.2.2.2.2.2.1
                · refine hY.cg (by omega) (fun i hi => ⟨?_, ?_⟩) (fun i _ hi => ⟨?_, ?_, ?_⟩) (fun s1 _ _ k _ => ?_)
                  · exact fm8 7 _ (by omega) (by omega) (by omega)
                  · exact fm8 8 _ (by omega) (by omega) (by omega)
                  · exact fx8 20 i (by omega) (by omega) (by omega) (by omega) (by omega) (by omega)
                  · exact fx8 21 i (by omega) (by omega) (by omega) (by omega) (by omega) (by omega)
                  · exact fx8 22 i (by omega) (by omega) (by omega) (by omega) (by omega) (by omega)
                  · exact fm8 6 _ (by omega) (by omega) (by omega)
                · exact hE8.cg (Nat.le_refl _) (fun i _ => ⟨rfl, rfl⟩) (fun i _ _ => ⟨rfl, rfl⟩)
                · exact r8
                · exact S8.2.1.2.2.2.2
                · show φ8 14 17 = _
                  rw [fx8 14 17 (by omega) (by omega) (by omega) (by omega) (by omega) (by omega), g2 14 17 (by omega) (by omega) (by omega) (by omega) (by omega) (by omega), e10]
                  simp [qm_u]
                · rw [fm8 0 31 (by omega) (by omega) (by omega), g3 0 31 (by omega) (by omega) (by omega) (by omega) (by omega), e11]
                  simp [qm_u]
                · intro s h1 h2
                  rw [hlast] at h2
                  by_cases zz : s < t7
                  · refine (g7 s h1 zz).fr ?_ ?_ (fun k hk => ?_)
                    · exact fx8 6 s (by omega) (by omega) (by omega) (by omega) (by omega) (by omega)
                    · exact fx8 9 s (by omega) (by omega) (by omega) (by omega) (by omega) (by omega)
                    · rw [fm8 3 _ (by omega) (by omega) (by omega), g3 3 _ (by omega) (by omega) (by omega) (by omega) (by omega)]
                  · exact (mk8 s (by omega) h2).fr rfl rfl (fun k hk => fm8 3 _ (by omega) (by omega) (by omega))
                · exact S8.2.1.2.1
                · exact yw_names hK S8.2.2.2.1 L5' D5.1.2.2.1 D5.1.2.2.2.1
                · intro a j ha
                  rw [ys_xgx _ a j (by omega), fx8 a j (by omega) (by omega) (by omega) (by omega) (by omega) (by omega), g2 a j (by omega) (by omega) (by omega) (by omega) (by omega) (by omega), fx6 a j (by omega), f5 a j (by omega), gx4 a j (by omega), fx2 a j (by omega) (by omega)]
                · intro a j h1 h2 h3 h4 h5 h6
                  rw [fm8 a j (by omega) (by omega) (by omega), g3 a j (by omega) (by omega) (by omega) (by omega) (by omega)]
                  exact cf6 a j h1 h2 h3 h4 h5 h6
              · have hc0 : ¬ yk_cls (T 0 tE) = 0 := by
                  unfold yk_cls
                  rw [if_neg qE]
                  repeat' split
                  all_goals decide
                rw [if_neg qE, if_pos (by rw [S8.2.2.1.2.1.2.2.1]; exact hc0), ym_must0 S8.2.2.1 (by decide)]
                simp only [yb2]
                rw [if_pos (by first | trivial | decide), if_pos (by first | trivial | decide)]
                refine Or.inr ⟨_, _, rfl, rfl, (ys_fault (f := 1) S8 (by decide) (ys_lo0 _) (ys_cf0 _)).pre ((lo6.trans g2.lo).trans fx8.lo) (cf6.trans ((g3.cf (by omega)).trans (fun a j h1 h2 h3 h4 h5 h6 => fm8 a j (by omega) (by omega) (by omega))))⟩
            · rw [e12, e13]
              simp only [yb2]
              rw [if_pos (by first | trivial | decide)]
              exact Or.inr ⟨φ8, ψ8, rfl, rfl, hb.pre (lo6.trans g2.lo) (cf6.trans (g3.cf (by omega)))⟩
          · rw [z1, z2]
            simp only [yb2]
            rw [if_pos (by first | trivial | decide)]
            exact Or.inr ⟨φ7, ψ7, rfl, rfl, hb.pre lo6 cf6⟩
        · rw [show pa_lines_L2 F nR n cnt F 0 φ4 0 0 = _ from e8, e9]
          simp only [yb2]
          rw [if_neg (by decide)]
          exact Or.inr ⟨φ5, ψ5, rfl, rfl, hb.pre (fun a j ha => by rw [gx4 a j (by omega)]; exact lo2 a j ha) (fun a j h1 h2 h3 h4 h5 h6 => by rw [gm4 a j (by omega)]; exact cf2 a j h1 h2 h3 h4 h5 h6)⟩
      · rw [e6, e7]
        simp only [yb2, yg0, yg1]
        rw [if_pos (by first | trivial | decide), if_neg (by decide)]
        exact Or.inr ⟨φ4, ψ4, rfl, rfl, hb.pre lo2 cf2⟩
    · rw [show pa_takeNumber F nR n cnt φ1 1 16 = _ from e4, show mo_takesNumber F ψ1 1 16 = _ from e5]
      simp only [yb2]
      rw [if_neg (by decide), if_neg (by decide)]
      simp only [yb2]
      rw [if_neg (by decide)]
      exact Or.inr ⟨φ2, ψ2, rfl, rfl, hb.pre gx1.lo gm1.cf⟩
  · rw [show pa_take F nR n cnt φ 128 = _ from e1, show mo_takesOwn F ψ 0 = _ from e2]
    simp only [yb2]
    rw [if_pos (by first | trivial | decide), if_pos (by first | trivial | decide)]
    simp only [yb2]
    rw [if_neg (by decide)]
    exact Or.inr ⟨φ1, ψ1, rfl, rfl, hb⟩
end Y18
