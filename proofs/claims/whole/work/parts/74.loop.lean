/-! SEMANTICS: expressions, both parsers alike -/
def ye_cl (n cnt : Nat) (b : Nat → Int32) (T : qm_F) (w op : Nat) (φ ψ : qm_F) (t sz cd : Nat) (x y : Option (Int32 × qm_F)) : Prop :=
  (∃ φ' ψ' t' len, x = some (1, φ') ∧ y = some (1, ψ') ∧ t < t' ∧ t + len ≤ t' ∧ ye_ac n cnt b T w 1 op φ ψ t sz cd φ' ψ' t' len) ∨ (∃ φ' ψ', x = some (0, φ') ∧ y = some (0, ψ') ∧ ye_bad t sz cd φ ψ φ' ψ')
def ye_lv (k : Int32) : Int32 := if k = 37 then 4 else if k = 38 then 1 else if k = 42 then 4 else if k = 43 then 3 else if k = 45 then 3 else if k = 47 then 4 else if k = 60 then 2 else if k = 61 then 2 else if k = 94 then 0 else if k = 124 then 0 else -1
section Y4
variable {F nR n cnt t sz cd w k op len : Nat} {b : Nat → Int32} {T φ ψ φ0 ψ0 : qm_F} {L : List (Nat × Nat)} {t0 : Nat}
theorem ye_lvx (φ : qm_F) (k : Int32) : pa_levelOf F nR n cnt φ k = some (ye_lv k) := by
  unfold pa_levelOf ye_lv
  repeat' split
  all_goals rfl
theorem ye_lvb {k : Int32} (h : ye_lv k ≠ -1) : ye_bin k := by
  unfold ye_lv at h
  unfold ye_bin
  repeat' (split at h; · simp_all)
  exact absurd rfl h
theorem ye_binc {k : Int32} (h : ye_bin k) : yk_cls k = 3 ∧ k ≠ 0 ∧ k ≠ 1 ∧ k ≠ 97 ∧ k ≠ 48 := by
  unfold ye_bin at h
  rcases h with rfl | rfl | rfl | rfl | rfl | rfl | rfl | rfl | rfl | rfl <;> decide
theorem ye_lvm (hK : yk_TK F n cnt b T) (h : yp_M n b T t cd ψ) (ht : t < cnt) {l : Nat} (hl : l ≤ 4) : mo_isOf F ψ (Int32.ofNat l) = some (if ye_lv (T 0 t) = Int32.ofNat l then 1 else 0) := by
  have key : ∀ k : Int32, ∀ c, T 0 t = k → yk_cls c = 3 → mo_isSign F ψ c = some (if k = c then 1 else 0) := by
    intro k c e hc
    rw [← e]
    exact ym_sign hK h ht c hc
  generalize hk : T 0 t = k
  have key := fun c => key k c hk
  unfold mo_isOf
  match l, hl with
  | 0, _ =>
    rw [if_pos (by decide), key 124 (by decide), key 94 (by decide)]
    simp only [yb1]
    by_cases q1 : k = 124
    · subst q1; decide
    · by_cases q2 : k = 94
      · subst q2; decide
      · rw [if_neg q1, if_neg q2, if_neg (by decide), if_pos (by decide), if_neg]
        unfold ye_lv
        repeat' split
        all_goals first | decide | contradiction
  | 1, _ =>
    rw [if_neg (by decide), if_pos (by decide), key 38 (by decide)]
    simp only [yb1]
    by_cases q1 : k = 38
    · subst q1; decide
    · rw [if_neg q1, if_neg]
      · decide
      · unfold ye_lv
        repeat' split
        all_goals first | decide | contradiction
  | 2, _ =>
    rw [if_neg (by decide), if_neg (by decide), if_pos (by decide), key 61 (by decide), key 60 (by decide)]
    simp only [yb1]
    by_cases q1 : k = 61
    · subst q1; decide
    · by_cases q2 : k = 60
      · subst q2; decide
      · rw [if_neg q1, if_neg q2, if_neg (by decide), if_pos (by decide), if_neg]
        unfold ye_lv
        repeat' split
        all_goals first | decide | contradiction
  | 3, _ =>
    rw [if_neg (by decide), if_neg (by decide), if_neg (by decide), if_pos (by decide), key 43 (by decide), key 45 (by decide)]
    simp only [yb1]
    by_cases q1 : k = 43
    · subst q1; decide
    · by_cases q2 : k = 45
      · subst q2; decide
      · rw [if_neg q1, if_neg q2, if_neg (by decide), if_pos (by decide), if_neg]
        unfold ye_lv
        repeat' split
        all_goals first | decide | contradiction
  | 4, _ =>
    rw [if_neg (by decide), if_neg (by decide), if_neg (by decide), if_neg (by decide), key 42 (by decide), key 47 (by decide), key 37 (by decide)]
    simp only [yb1]
    by_cases q1 : k = 42
    · subst q1; decide
    · by_cases q2 : k = 47
      · subst q2; decide
      · by_cases q3 : k = 37
        · subst q3; decide
        · rw [if_neg q1, if_neg q2, if_neg q3, if_neg (by decide), if_neg (by decide), if_pos (by decide), if_neg]
          unfold ye_lv
          repeat' split
          all_goals first | decide | contradiction
/-- operators of one level -/
theorem ye_loop (hK : yk_TK F n cnt b T) {l w1 : Nat} (hl : l ≤ 4) {gx gm : Nat → qm_F → Int32 → Int32 → Option (Int32 × qm_F)} {oi : Int32} {L : List (Nat × Nat)}
    (ih : ∀ (φ ψ : qm_F) (t sz cd : Nat), yp_X n cnt T t sz φ → yp_M n b T t cd ψ → ψ 0 28 = Int32.ofNat op → yn_NM cnt T L φ ψ → t < cnt → sz ≤ t + 1 → cd ≤ t → ye_cl n cnt b T w1 op φ ψ t sz cd (gx 0 φ (Int32.ofNat (l + 1)) oi) (gm 1 ψ (Int32.ofNat (l + 1)) 0)) (hN : yn_NM cnt T L φ0 ψ0) (hsz : sz ≤ t0 + 1) (hcd : cd ≤ t0) :
    ∀ (m m' : Nat) (φ ψ : qm_F) (t len i : Nat) (x3 x4 x2 : Int32), cnt + 2 ≤ m + t → cnt + 2 ≤ m' + t → t0 < t → t0 + len ≤ t → ye_ac n cnt b T (w1 + 1) 1 op φ0 ψ0 t0 sz cd φ ψ t len →
      ((l ≠ 2 ∧ x3 = Int32.ofNat cnt ∧ x4 = Int32.ofNat i ∧ i < t ∧ x2 = 1) ∨ (l = 2 ∧ x3 = 1 ∧ (x4 = 0 ∧ x2 = 1 ∨ x4 = 1 ∧ x2 = 0))) →
      ye_cl n cnt b T (w1 + 1) op φ0 ψ0 t0 sz cd (pa_expression_L44 F nR n cnt gx m φ (Int32.ofNat l) oi x3 x4) (mo_sides_L24 F gm m' ψ (Int32.ofNat l) x2) := by
  have hcn : cnt ≤ 801 := by obtain ⟨-, k2, k3, -⟩ := hK; omega
  have hn8 : n ≤ 800 ∧ cnt ≤ n + 1 := by obtain ⟨-, k2, k3, -⟩ := hK; omega
  intro m
  induction m with
  | zero => intro m' φ ψ t len i x3 x4 x2 h1 h2 h3 h4 h5; have := h5.2.1; omega
  | succ m ihm =>
    intro m' φ ψ t len i x3 x4 x2 h1 h2 h3 h4 h5 h6
    have ht := h5.2.1
    obtain ⟨m', rfl⟩ : ∃ z, m' = z + 1 := ⟨m' - 1, by omega⟩
    unfold pa_expression_L44 mo_sides_L24
    -- the end by the count
    by_cases qe : x4 = 1 ∧ x2 = 0 ∧ x3 = 1
    · obtain ⟨rfl, rfl, rfl⟩ := qe
      rw [if_pos (by decide), if_pos rfl]
      exact Or.inl ⟨φ, ψ, t, len, rfl, rfl, h3, h4, h5⟩
    · have hx : ¬ x3 ≤ x4 ∧ x2 = 1 := by
        rcases h6 with ⟨-, rfl, rfl, hi, rfl⟩ | ⟨-, rfl, ⟨rfl, rfl⟩ | ⟨rfl, rfl⟩⟩
        · exact ⟨by rw [ya_le (by omega) (by omega)]; omega, rfl⟩
        · exact ⟨by decide, rfl⟩
        · exact absurd ⟨rfl, rfl, rfl⟩ qe
      obtain ⟨hx3, rfl⟩ := hx
      rw [if_neg hx3, if_neg (by decide), yx_kind h5.2.2.1 ht (by omega) (by omega), ye_lvm hK h5.2.2.2.1 ht hl]
      simp only [yb1, ye_lvx]
      by_cases q : ye_lv (T 0 t) = Int32.ofNat l
      · rw [if_neg (by simp [q]), if_pos q, if_neg (by decide), h5.2.2.2.1.2.1.1]
        have hb : ye_bin (T 0 t) := ye_lvb (by rw [q]; intro z; have : (Int32.ofNat l) < 0 := by rw [z]; decide
                                               exact ya_lt0 (by omega) this)
        obtain ⟨c3, c0, c1, c97, c48⟩ := ye_binc hb
        have hsee : mo_see F ψ (T 1 t) = some (T 0 t) := by
          obtain ⟨-, -, -, -, k5, -⟩ := hK
          exact k5 ψ t h5.2.2.2.1.1 ht c3
        obtain ⟨ψ1, e1, ac1⟩ := ye_next' hK h5 c0 c1 (fun z => absurd z c97)
        rw [hsee, e1, h5.2.2.1.1, ya_add1, ya_add1]
        simp only [yb1]
        have hN1 : yn_NM cnt T L (qm_u φ 10 3 (Int32.ofNat (t + 1))) ψ1 := hN.fr (fun a j ha => ac1.2.2.2.2.2.1 a j (by omega) (by omega) (by omega) (by omega)) (fun j hj => ac1.2.2.2.2.2.2.1 3 j (by omega) (by omega))
        rcases ih (qm_u φ 10 3 (Int32.ofNat (t + 1))) ψ1 (t + 1) (sz + len) (cd + len) ac1.2.2.1 ac1.2.2.2.1 ac1.2.2.2.2.1 hN1 ac1.2.1 (by omega) (by omega) with ⟨φ2, ψ2, t2, len2, e2, e3, l1, l2, ac2⟩ | ⟨φ2, ψ2, e2, e3, hbad⟩
        · rw [e2, e3]
          simp only [yb2]
          rw [if_pos (by decide), if_pos (by decide)]
          have ac3 := ye_trans (W := w1 + 1) ac1 ac2 (Nat.le_refl _) (by omega)
          have ht2 := ac2.2.1
          obtain ⟨φ3, ψ3, e4, e5, ac4⟩ := ye_emit (F := F) (o := T 0 t) (a := 0) (c := T 0 t) (v := 0) (k' := 1) (W := w1 + 1) ac3 (by omega) (by omega) (by omega) (Or.inr (Or.inr (Or.inr (Or.inr ⟨rfl, hb⟩)))) (Nat.le_refl _) (fun h _ => by
            unfold ye_h1
            rw [if_neg, if_neg, if_pos (by omega)]
            · rfl
            · rintro (z | z) <;> rw [z] at hb <;> exact absurd hb (by unfold ye_bin; decide)
            · rintro (z | z) <;> rw [z] at hb <;> exact absurd hb (by unfold ye_bin; decide)) nR
          rw [e4, e5]
          simp only [yb1, yb2]
          have fin := fun x2' x4' i' hh => ihm m' φ3 ψ3 t2 (len + len2 + 1) i' x3 x4' x2' (by omega) (by omega) (by omega) (by omega) ac4 hh
          rcases h6 with ⟨z1, z2, z3, z4, -⟩ | ⟨z1, z2, ⟨z3, -⟩ | ⟨-, z4⟩⟩
          · have : ¬ (Int32.ofNat l = 2) := by
              intro z
              rw [show (2 : Int32) = Int32.ofNat 2 from rfl, ya_eq (by omega) (by omega)] at z
              exact z1 z
            rw [if_neg this, z3, ya_add1]
            exact fin 1 _ (i + 1) (Or.inl ⟨z1, z2, rfl, by omega, rfl⟩)
          · subst z1
            rw [if_pos (by decide), z3]
            exact fin 0 _ i (Or.inr ⟨rfl, z2, Or.inr ⟨rfl, rfl⟩⟩)
          · exact absurd z4 (by decide)
        · rw [e2, e3]
          simp only [yb2]
          rw [if_neg (by decide), if_neg (by decide)]
          exact Or.inr ⟨φ2, ψ2, rfl, rfl, ye_bad.trans ac1 hbad⟩
      · rw [if_pos q, if_neg q, if_pos rfl]
        exact Or.inl ⟨φ, ψ, t, len, rfl, rfl, h3, h4, h5⟩
end Y4
