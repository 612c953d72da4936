/-! SEMANTICS: lines, both parsers alike -/
/-- what the lines have told -/
def yd_D (W : Nat) (Ib Hb Hr : List Nat) (v : Nat) (φ ψ : qm_F) : Prop :=
  (1 ≤ W ∧ W ≤ 16 ∧ Ib.length ≤ 3 ∧ Hb.length ≤ 5 ∧ Hr.length = Hb.length ∧ v ≤ 4 ∧ Ib.sum ≤ 7 ∧ Hb.sum ≤ 7 ∧ (∀ x, x ∈ Ib → 1 ≤ x ∧ x ≤ 6) ∧ (∀ x, x ∈ Hb → 1 ≤ x ∧ x ≤ 6) ∧ (∀ x, x ∈ Hr → x ≤ 9)) ∧
  (φ 14 0 = Int32.ofNat W ∧ φ 14 1 = Int32.ofNat Ib.length ∧ φ 14 2 = Int32.ofNat Hb.length ∧ φ 14 3 = Int32.ofNat v ∧ φ 14 5 = Int32.ofNat Ib.sum ∧ φ 14 6 = Int32.ofNat Hb.sum) ∧
  (ψ 2 7 = Int32.ofNat W ∧ ψ 2 8 = Int32.ofNat Ib.length ∧ ψ 2 9 = Int32.ofNat Hb.length ∧ ψ 2 10 = Int32.ofNat v ∧ ψ 2 12 = Int32.ofNat Ib.sum ∧ ψ 2 13 = Int32.ofNat Hb.sum) ∧
  (∀ k x, Ib[k]? = some x → φ 15 k = Int32.ofNat x ∧ ψ 4 (15 + k) = Int32.ofNat x) ∧
  (∀ k x, Hb[k]? = some x → φ 16 k = Int32.ofNat x ∧ ψ 4 (18 + k) = Int32.ofNat x) ∧
  (∀ k x, Hr[k]? = some x → φ 17 k = Int32.ofNat x ∧ ψ 5 (18 + k) = Int32.ofNat x)
def yd_L (i h v : Nat) (L : List (Nat × Nat)) : Prop := (∀ p, p ∈ L → p.1 < i ∨ (3 ≤ p.1 ∧ p.1 < 3 + h) ∨ (8 ≤ p.1 ∧ p.1 < 8 + v)) ∧ L.length = i + h + v
theorem yd_app {P : Nat → Nat → Prop} {l : List Nat} {v : Nat} (h : ∀ k x, l[k]? = some x → P k x) (hv : P l.length v) : ∀ k x, (l ++ [v])[k]? = some x → P k x := by
  intro k x hx
  by_cases z : k < l.length
  · rw [List.getElem?_append_left z] at hx
    exact h k x hx
  · rw [List.getElem?_append_right (by omega)] at hx
    have h0 : k - l.length = 0 := by
      have := (List.getElem?_eq_some_iff.mp hx).1
      simp at this
      omega
    rw [h0] at hx
    simp at hx
    have : k = l.length := by omega
    subst this hx
    exact hv
theorem yd_mem {P : Nat → Prop} {l : List Nat} {v : Nat} (h : ∀ x, x ∈ l → P x) (hv : P v) : ∀ x, x ∈ l ++ [v] → P x := by
  intro x hx
  rcases List.mem_append.mp hx with hx | hx
  · exact h x hx
  · simp at hx; subst hx; exact hv
section Y17
variable {F nR n cnt t : Nat} {b : Nat → Int32} {T φ ψ : qm_F} {L : List (Nat × Nat)} {W v : Nat} {Ib Hb Hr : List Nat}
/-- a line is done -/
def yd_cl (n cnt : Nat) (b : Nat → Int32) (T : qm_F) (W : Nat) (φ ψ : qm_F) (t : Nat) (x y : Option (Int32 × qm_F)) : Prop :=
  (∃ φ' ψ' t' L' Ib' Hb' Hr' v', x = some (1, φ') ∧ y = some (1, ψ') ∧ t < t' ∧ ys_S n cnt b T t' 0 0 0 0 0 L' φ' ψ' ∧ yd_D W Ib' Hb' Hr' v' φ' ψ' ∧ yd_L Ib'.length Hb'.length v' L' ∧ (∀ a j, a < 10 → φ' a j = φ a j) ∧ ys_cf ψ ψ') ∨
  (∃ φ' ψ', x = some (0, φ') ∧ y = some (0, ψ') ∧ ys_bad φ ψ φ' ψ')
theorem yd_tn (ψ : qm_F) (hb : ψ 0 13 = 1) (hM9 : ψ 0 9 = 0) {kd wh most base k : Nat} (hh : (kd, wh, most, base) = (1, 1, 3, 0) ∨ (kd, wh, most, base) = (2, 2, 5, 3) ∨ (kd, wh, most, base) = (4, 3, 4, 8)) (hk : ψ 2 (7 + wh) = Int32.ofNat k) (hkk : k < 100) : mo_tellsName F ψ (Int32.ofNat kd) = if most ≤ k then some (-1, qm_u (qm_u ψ 0 9 5) 0 10 (ψ 0 4)) else yd_lm F ψ (Int32.ofNat wh) (Int32.ofNat k) (Int32.ofNat base) := by
  have m1 : mo_must F ψ 1 5 = some (1, ψ) := by
    unfold mo_must mo_must_L24
    simp [hM9]
  have m0 : mo_must F ψ 0 5 = some (0, qm_u (qm_u ψ 0 9 5) 0 10 (ψ 0 4)) := by
    unfold mo_must mo_must_L24
    simp [hM9, qm_u]
  rcases hh with h | h | h
  · cases h
    unfold mo_tellsName mo_tellsName_L19 mo_tellsName_L39 mo_tellsName_L59 yd_lm
    rw [if_neg (by decide), if_neg (by decide), show mo_had F ψ 1 = _ from yd_had (i := 1) hb (by omega), hk]
    simp only [yb1]
    rw [m1, m0]
    simp only [yb2]
    by_cases q : 3 ≤ k
    · rw [if_pos (by rw [show (3 : Int32) = Int32.ofNat 3 from rfl, ya_le (by omega) (by omega)]; exact q), if_pos q]
      rfl
    · rw [if_neg (by rw [show (3 : Int32) = Int32.ofNat 3 from rfl, ya_le (by omega) (by omega)]; exact q), if_neg q]
      rfl
  · cases h
    unfold mo_tellsName mo_tellsName_L19 mo_tellsName_L39 mo_tellsName_L59 yd_lm
    rw [if_pos (by decide), if_neg (by decide), if_pos (by decide), if_neg (by decide), show mo_had F ψ 2 = _ from yd_had (i := 2) hb (by omega), hk]
    simp only [yb1]
    rw [m1, m0]
    simp only [yb2]
    by_cases q : 5 ≤ k
    · rw [if_pos (by rw [show (5 : Int32) = Int32.ofNat 5 from rfl, ya_le (by omega) (by omega)]; exact q), if_pos q]
      rfl
    · rw [if_neg (by rw [show (5 : Int32) = Int32.ofNat 5 from rfl, ya_le (by omega) (by omega)]; exact q), if_neg q]
      rfl
  · cases h
    unfold mo_tellsName mo_tellsName_L19 mo_tellsName_L39 mo_tellsName_L59 yd_lm
    rw [if_pos (by decide), if_pos (by decide), if_pos (by decide), if_pos (by decide), show mo_had F ψ 3 = _ from yd_had (i := 3) hb (by omega), hk]
    simp only [yb1]
    rw [m1, m0]
    simp only [yb2]
    by_cases q : 4 ≤ k
    · rw [if_pos (by rw [show (4 : Int32) = Int32.ofNat 4 from rfl, ya_le (by omega) (by omega)]; exact q), if_pos q]
      rfl
    · rw [if_neg (by rw [show (4 : Int32) = Int32.ofNat 4 from rfl, ya_le (by omega) (by omega)]; exact q), if_neg q]
      rfl
/-- in NAME NUMBER ; -/
theorem yd_in (hF : 2000 ≤ F) (hK : yk_TK F n cnt b T) (h : ys_S n cnt b T t 0 0 0 0 0 L φ ψ) (hD : yd_D W Ib Hb Hr v φ ψ) (hL : yd_L Ib.length Hb.length v L) (hk : T 0 t = 129) : yd_cl n cnt b T W φ ψ t (pa_inLine F nR n cnt φ) (mo_line F ψ) := by
  have hcn := yk_cn hK
  have h' := h
  obtain ⟨ht, hX, hM, -⟩ := h'
  have hD' := hD
  obtain ⟨⟨w1, w2, w3, w4, w5, w6, w7, w8, w9, w10, w11⟩, ⟨x1, x2, x3, x4, x5, x6⟩, ⟨y1, y2, y3, y4, y5, y6⟩, z1, z2, z3⟩ := hD'
  have hm : mo_line F ψ = qb2 (if 3 ≤ Ib.length then some (-1, qm_u (qm_u ψ 0 9 5) 0 10 (ψ 0 4)) else yd_lm F ψ (Int32.ofNat 1) (Int32.ofNat Ib.length) (Int32.ofNat 0)) fun y2 φ1 => if 0 ≤ y2 then mo_line_L40 F φ1 (Int32.ofNat 1) y2 (Int32.ofNat 5) else some (0, φ1) := by
    unfold mo_line
    rw [ym_own hK hM ht, show yk_own (T 0 t) = Int32.ofNat 1 by rw [hk]; decide]
    simp only [yb1]
    rw [yd_tn ψ hM.2.2.2.1 hM.2.2.1 (kd := 1) (wh := 1) (most := 3) (base := 0) (Or.inl rfl) y2 (by omega)]
    rfl
  rw [hm]
  unfold pa_inLine
  rw [x2]
  by_cases q3 : Ib.length < 3
  · rw [if_pos (by rw [show (3 : Int32) = Int32.ofNat 3 from rfl, ya_lt (by omega) (by omega)]; exact q3), if_neg (by omega), hX.1, ya_add1]
    rcases yd_name (nR := nR) (wh := 1) (k := Ib.length) (s0 := 0) hF hK h (by rw [hk]; decide) (by omega) (by omega) (by rw [hL.2]; omega) (fun p hp => by have := hL.1 p hp; omega) with ⟨φ1, ψ1, e1, e2, f1, e3, e4, S1, g1, c1⟩ | ⟨φ1, ψ1, e1, e4, hbad⟩
    · rw [e1, e4]
      simp only [yb2]
      rw [if_pos (by decide), if_pos (ya_ge0 (by omega)), e2, f1 14 1 (by omega), x2]
      rw [Nat.zero_add] at e3 S1 ⊢
      rw [e3]
      simp only [yb1]
      have f2 := ys_laf φ1 L.length (T 3 (t + 1)) Ib.length
      have fa : ∀ a j, 14 ≤ a ∨ a < 10 → ys_la φ1 L.length (T 3 (t + 1)) Ib.length a j = φ a j := fun a j ha => by rw [f2 a j (by omega) (by omega), f1 a j (by omega)]
      rw [fa 14 5 (by omega), x5]
      rcases yd_bits (nR := nR) (sl := Ib.length) (x3 := 5) (kd := 1) hK S1 (by rw [fa 14 0 (by omega)]; exact x1) (by rw [g1 2 7 (by omega) (by omega) (by omega)]; exact y1) w2 w7 (Or.inl rfl) (by rw [g1 2 _ (by omega) (by omega) (by omega)]; exact y5) (by omega) with ⟨k, φ2, ψ2, k1, k2, k3, k4, e5, S2, e6, gx2, e7, g2, c2, c3, c4⟩ | ⟨φ2, ψ2, e5, e7, hbad⟩
      · rw [e5, e7]
        simp only [yb2]
        rw [if_pos (by decide), if_pos (by decide), e6]
        have fb : ∀ a j, 14 ≤ a ∨ a < 10 → φ2 a j = φ a j := fun a j ha => by rw [gx2 a j (by omega), fa a j ha]
        have ei : pr_addIn F nR n cnt φ2 (Int32.ofNat k) = some (qm_u (qm_u (qm_u φ2 15 Ib.length (Int32.ofNat k)) 14 5 (Int32.ofNat (Ib.sum + k))) 14 1 (Int32.ofNat (Ib.length + 1))) := by
          unfold pr_addIn
          rw [fb 14 1 (by omega), fb 14 5 (by omega), x2, x5, if_neg (by rw [show (3 : Int32) = Int32.ofNat 3 from rfl, ya_le (by omega) (by omega)]; omega), ya_in (by omega) (by omega), ya_nn (by omega), ya_add, ya_add1]
          rfl
        rw [ei]
        simp only [yb1]
        have S3 : ys_S n cnt b T (t + 2 + 1) 0 0 0 0 0 (L ++ [(Ib.length, t + 1)]) (qm_u (qm_u (qm_u φ2 15 Ib.length (Int32.ofNat k)) 14 5 (Int32.ofNat (Ib.sum + k))) 14 1 (Int32.ofNat (Ib.length + 1))) ψ2 := S2.cg (fun a j hh => by
          unfold qm_u
          repeat' split
          all_goals first | rfl | omega) (fun _ _ _ => rfl)
        unfold mo_line_L221
        rcases ys_takes (nR := nR) hK S3 59 (by decide) with ⟨qq, φ4, ψ4, e8, e9, S4, gx4, gm4⟩ | ⟨qq, φ4, ψ4, e8, e9, hbad⟩
        · rw [e8, e9]
          simp only [yb2, yg01, yg1]
          have fc : ∀ a j, 14 ≤ a ∨ a < 10 → ¬ (a = 15 ∧ j = Ib.length) → ¬ (a = 14 ∧ (j = 5 ∨ j = 1)) → φ4 a j = φ a j := fun a j ha h1 h2 => by
            rw [gx4 a j (by omega)]
            have : (qm_u (qm_u (qm_u φ2 15 Ib.length (Int32.ofNat k)) 14 5 (Int32.ofNat (Ib.sum + k))) 14 1 (Int32.ofNat (Ib.length + 1))) a j = φ2 a j := by
              unfold qm_u
              repeat' split
              all_goals first | rfl | omega
            rw [this, fb a j ha]
          have gc : ∀ a j, ¬ (a = 0 ∧ (4 ≤ j ∧ j ≤ 11)) → ¬ (a = 3 ∧ j = 15 + (0 + Ib.length)) → ¬ (a = 2 ∧ (j = 8 ∨ j = 12)) → ¬ ((a = 4 ∨ a = 5) ∧ j = 15 + Ib.length) → ψ4 a j = ψ a j := fun a j h1 h2 h3 h4 => by
            rw [gm4 a j (by omega), g2 a j (by omega) (by omega) (by omega), g1 a j (by omega) (by omega) (by omega)]
          refine Or.inl ⟨φ4, ψ4, t + 2 + 1 + 1, L ++ [(Ib.length, t + 1)], Ib ++ [k], Hb, Hr, v, rfl, rfl, by omega, S4, ⟨⟨w1, w2, ?_, w4, w5, w6, ?_, w8, ?_, w10, w11⟩, ⟨?_, ?_, ?_, ?_, ?_, ?_⟩, ⟨?_, ?_, ?_, ?_, ?_, ?_⟩, ?_, ?_, ?_⟩, ⟨?_, ?_⟩, ?_, ?_⟩
          · simp; omega
          · simp; omega
          · exact yd_mem w9 ⟨k1, k2⟩
          · rw [fc 14 0 (by omega) (by omega) (by omega)]; exact x1
          · rw [gx4 14 1 (by omega)]; simp [qm_u]
          · rw [fc 14 2 (by omega) (by omega) (by omega)]; exact x3
          · rw [fc 14 3 (by omega) (by omega) (by omega)]; exact x4
          · rw [gx4 14 5 (by omega)]; simp [qm_u]
          · rw [fc 14 6 (by omega) (by omega) (by omega)]; exact x6
          · rw [gc 2 7 (by omega) (by omega) (by omega) (by omega)]; exact y1
          · rw [gm4 2 8 (by omega), g2 2 8 (by omega) (by omega) (by omega)]; simp only [List.length_append, List.length_cons, List.length_nil, Nat.zero_add]; exact c1
          · rw [gc 2 9 (by omega) (by omega) (by omega) (by omega)]; exact y3
          · rw [gc 2 10 (by omega) (by omega) (by omega) (by omega)]; exact y4
          · rw [gm4 2 12 (by omega)]; simp only [List.sum_append, List.sum_cons, List.sum_nil, Nat.add_zero]; exact c4
          · rw [gc 2 13 (by omega) (by omega) (by omega) (by omega)]; exact y6
          · refine yd_app (fun j x hx => ?_) ?_
            · have hj := (List.getElem?_eq_some_iff.mp hx).1
              rw [fc 15 j (by omega) (by omega) (by omega), gc 4 _ (by omega) (by omega) (by omega) (by omega)]
              exact z1 j x hx
            · constructor
              · rw [gx4 15 _ (by omega)]; simp [qm_u]
              · rw [gm4 4 _ (by omega)]; exact c2
          · intro j x hx
            rw [fc 16 j (by omega) (by omega) (by omega), gc 4 _ (by omega) (by omega) (by omega) (by omega)]
            exact z2 j x hx
          · intro j x hx
            rw [fc 17 j (by omega) (by omega) (by omega), gc 5 _ (by omega) (by omega) (by omega) (by omega)]
            exact z3 j x hx
          · intro p hp
            rcases List.mem_append.mp hp with hp | hp
            · have := hL.1 p hp
              simp only [List.length_append, List.length_cons, List.length_nil]
              omega
            · simp at hp; subst hp
              simp only [List.length_append, List.length_cons, List.length_nil]
              omega
          · have := hL.2
            simp only [List.length_append, List.length_cons, List.length_nil]
            omega
          · intro a j ha
            exact fc a j (by omega) (by omega) (by omega)
          · intro a j h1 h2 h3 h4 h5 h6
            exact gc a j (by omega) (by omega) (by omega) (by omega)
        · rw [e8, e9]
          simp only [yb2, yg0, yg1]
          refine Or.inr ⟨φ4, ψ4, rfl, rfl, hbad.pre (fun a j ha => ?_) (fun a j h1 h2 h3 h4 h5 h6 => ?_)⟩
          · have : (qm_u (qm_u (qm_u φ2 15 Ib.length (Int32.ofNat k)) 14 5 (Int32.ofNat (Ib.sum + k))) 14 1 (Int32.ofNat (Ib.length + 1))) a j = φ2 a j := by
              unfold qm_u
              repeat' split
              all_goals first | rfl | omega
            rw [this, fb a j (by omega)]
          · rw [g2 a j (by omega) (by omega) (by omega), g1 a j (by omega) (by omega) (by omega)]
      · rw [e5, e7]
        simp only [yb2]
        rw [if_neg (by decide)]
        exact Or.inr ⟨φ2, ψ2, rfl, rfl, hbad.pre (fun a j ha => fa a j (by omega)) (fun a j h1 h2 h3 h4 h5 h6 => g1 a j (by omega) (by omega) (by omega))⟩
    · rw [e1, e4]
      simp only [yb2]
      rw [if_neg (by decide), if_neg (by decide)]
      exact Or.inr ⟨φ1, ψ1, rfl, rfl, hbad⟩
  · rw [if_neg (by rw [show (3 : Int32) = Int32.ofNat 3 from rfl, ya_lt (by omega) (by omega)]; exact q3), if_pos (by omega), yx_fail hX ht (by omega) (by omega), hM.2.1.1]
    simp only [yb2, yg0, yg1]
    rw [if_neg (by decide)]
    exact Or.inr ⟨_, _, rfl, rfl, ys_fault h (by decide) (ys_lo0 _) (ys_cf0 _)⟩
/-- var NAME ; -/
theorem yd_var (hF : 2000 ≤ F) (hK : yk_TK F n cnt b T) (h : ys_S n cnt b T t 0 0 0 0 0 L φ ψ) (hD : yd_D W Ib Hb Hr v φ ψ) (hL : yd_L Ib.length Hb.length v L) (hk : T 0 t = 132) : yd_cl n cnt b T W φ ψ t (pa_varLine F nR n cnt φ) (mo_line F ψ) := by
  have hcn := yk_cn hK
  have h' := h
  obtain ⟨ht, hX, hM, -⟩ := h'
  have hD' := hD
  obtain ⟨⟨w1, w2, w3, w4, w5, w6, w7, w8, w9, w10, w11⟩, ⟨x1, x2, x3, x4, x5, x6⟩, ⟨y1, y2, y3, y4, y5, y6⟩, z1, z2, z3⟩ := hD'
  have hm : mo_line F ψ = qb2 (if 4 ≤ v then some (-1, qm_u (qm_u ψ 0 9 5) 0 10 (ψ 0 4)) else yd_lm F ψ (Int32.ofNat 3) (Int32.ofNat v) (Int32.ofNat 8)) fun y2 φ1 => if 0 ≤ y2 then (qb2 (mo_takesSign F φ1 59) fun y3 φ2 => qg (qm_bz y3) (some (y3, φ2))) else some (0, φ1) := by
    unfold mo_line
    rw [ym_own hK hM ht, show yk_own (T 0 t) = Int32.ofNat 4 by rw [hk]; decide]
    simp only [yb1]
    rw [yd_tn ψ hM.2.2.2.1 hM.2.2.1 (kd := 4) (wh := 3) (most := 4) (base := 8) (Or.inr (Or.inr rfl)) y4 (by omega)]
    rfl
  rw [hm]
  unfold pa_varLine
  rw [x4]
  by_cases q3 : v < 4
  · rw [if_pos (by rw [show (4 : Int32) = Int32.ofNat 4 from rfl, ya_lt (by omega) (by omega)]; exact q3), if_neg (by omega), hX.1, ya_add1]
    rcases yd_name (nR := nR) (wh := 3) (k := v) (s0 := 8) hF hK h (by rw [hk]; decide) (by omega) (by omega) (by rw [hL.2]; omega) (fun p hp => by have := hL.1 p hp; omega) with ⟨φ1, ψ1, e1, e2, f1, e3, e4, S1, g1, c1⟩ | ⟨φ1, ψ1, e1, e4, hbad⟩
    · rw [e1, e4]
      simp only [yb2]
      rw [if_pos (by decide), if_pos (ya_ge0 (by omega)), e2, f1 14 3 (by omega), x4]
      rw [show (8 : Int32) + Int32.ofNat v = Int32.ofNat (8 + v) from ya_add 8 v, e3]
      simp only [yb1]
      have f2 := ys_laf φ1 L.length (T 3 (t + 1)) (8 + v)
      have fa : ∀ a j, 14 ≤ a ∨ a < 10 → ys_la φ1 L.length (T 3 (t + 1)) (8 + v) a j = φ a j := fun a j ha => by rw [f2 a j (by omega) (by omega), f1 a j (by omega)]
      rw [fa 14 3 (by omega), x4, ya_add1]
      have S3 : ys_S n cnt b T (t + 2) 0 0 0 0 0 (L ++ [(8 + v, t + 1)]) (qm_u (ys_la φ1 L.length (T 3 (t + 1)) (8 + v)) 14 3 (Int32.ofNat (v + 1))) ψ1 := S1.cg (fun a j hh => by
        unfold qm_u
        repeat' split
        all_goals first | rfl | omega) (fun _ _ _ => rfl)
      rcases ys_takes (nR := nR) hK S3 59 (by decide) with ⟨qq, φ4, ψ4, e8, e9, S4, gx4, gm4⟩ | ⟨qq, φ4, ψ4, e8, e9, hbad⟩
      · rw [e8, e9]
        simp only [yb2, yg01, yg1]
        have fc : ∀ a j, 14 ≤ a ∨ a < 10 → ¬ (a = 14 ∧ j = 3) → φ4 a j = φ a j := fun a j ha h2 => by
          rw [gx4 a j (by omega)]
          have : (qm_u (ys_la φ1 L.length (T 3 (t + 1)) (8 + v)) 14 3 (Int32.ofNat (v + 1))) a j = ys_la φ1 L.length (T 3 (t + 1)) (8 + v) a j := by
            unfold qm_u
            repeat' split
            all_goals first | rfl | omega
          rw [this, fa a j ha]
        have gc : ∀ a j, ¬ (a = 0 ∧ (4 ≤ j ∧ j ≤ 11)) → ¬ (a = 3 ∧ j = 15 + (8 + v)) → ¬ (a = 2 ∧ j = 10) → ψ4 a j = ψ a j := fun a j h1 h2 h3 => by
          rw [gm4 a j (by omega), g1 a j (by omega) (by omega) (by omega)]
        refine Or.inl ⟨φ4, ψ4, t + 2 + 1, L ++ [(8 + v, t + 1)], Ib, Hb, Hr, v + 1, rfl, rfl, by omega, S4, ⟨⟨w1, w2, w3, w4, w5, by omega, w7, w8, w9, w10, w11⟩, ⟨?_, ?_, ?_, ?_, ?_, ?_⟩, ⟨?_, ?_, ?_, ?_, ?_, ?_⟩, ?_, ?_, ?_⟩, ⟨?_, ?_⟩, ?_, ?_⟩
        · rw [fc 14 0 (by omega) (by omega)]; exact x1
        · rw [fc 14 1 (by omega) (by omega)]; exact x2
        · rw [fc 14 2 (by omega) (by omega)]; exact x3
        · rw [gx4 14 3 (by omega)]; simp [qm_u]
        · rw [fc 14 5 (by omega) (by omega)]; exact x5
        · rw [fc 14 6 (by omega) (by omega)]; exact x6
        · rw [gc 2 7 (by omega) (by omega) (by omega)]; exact y1
        · rw [gc 2 8 (by omega) (by omega) (by omega)]; exact y2
        · rw [gc 2 9 (by omega) (by omega) (by omega)]; exact y3
        · rw [gm4 2 10 (by omega)]; exact c1
        · rw [gc 2 12 (by omega) (by omega) (by omega)]; exact y5
        · rw [gc 2 13 (by omega) (by omega) (by omega)]; exact y6
        · intro j x hx
          rw [fc 15 j (by omega) (by omega), gc 4 _ (by omega) (by omega) (by omega)]
          exact z1 j x hx
        · intro j x hx
          rw [fc 16 j (by omega) (by omega), gc 4 _ (by omega) (by omega) (by omega)]
          exact z2 j x hx
        · intro j x hx
          rw [fc 17 j (by omega) (by omega), gc 5 _ (by omega) (by omega) (by omega)]
          exact z3 j x hx
        · intro p hp
          rcases List.mem_append.mp hp with hp | hp
          · have := hL.1 p hp
            omega
          · simp at hp; subst hp
            dsimp only
            omega
        · have := hL.2
          simp only [List.length_append, List.length_cons, List.length_nil]
          omega
        · intro a j ha
          exact fc a j (by omega) (by omega)
        · intro a j h1 h2 h3 h4 h5 h6
          exact gc a j (by omega) (by omega) (by omega)
      · rw [e8, e9]
        simp only [yb2, yg0, yg1]
        refine Or.inr ⟨φ4, ψ4, rfl, rfl, hbad.pre (fun a j ha => ?_) (fun a j h1 h2 h3 h4 h5 h6 => ?_)⟩
        · have : (qm_u (ys_la φ1 L.length (T 3 (t + 1)) (8 + v)) 14 3 (Int32.ofNat (v + 1))) a j = ys_la φ1 L.length (T 3 (t + 1)) (8 + v) a j := by
            unfold qm_u
            repeat' split
            all_goals first | rfl | omega
          rw [this, fa a j (by omega)]
        · rw [g1 a j (by omega) (by omega) (by omega)]
    · rw [e1, e4]
      simp only [yb2]
      rw [if_neg (by decide), if_neg (by decide)]
      exact Or.inr ⟨φ1, ψ1, rfl, rfl, hbad⟩
  · rw [if_neg (by rw [show (4 : Int32) = Int32.ofNat 4 from rfl, ya_lt (by omega) (by omega)]; exact q3), if_pos (by omega), yx_fail hX ht (by omega) (by omega), hM.2.1.1]
    simp only [yb2, yg0, yg1]
    rw [if_neg (by decide)]
    exact Or.inr ⟨_, _, rfl, rfl, ys_fault h (by decide) (ys_lo0 _) (ys_cf0 _)⟩
/-- the end of a hole's line -/
theorem yd_hend (hK : yk_TK F n cnt b T) {L' : List (Nat × Nat)} {φ2 ψ2 : qm_F} {t2 k r sl : Nat} (hD : yd_D W Ib Hb Hr v φ ψ) (hL : yd_L Ib.length Hb.length v L) (hsl : sl = 3 + Hb.length) (q5 : Hb.length < 5) (S2 : ys_S n cnt b T t2 0 0 0 0 0 (L ++ [(sl, t + 1)]) φ2 ψ2) (ht2 : t < t2) (k1 : 1 ≤ k) (k2 : k ≤ 6) (k4 : Hb.sum + k ≤ 7) (hr : r ≤ 9) (e4 : φ2 10 4 = Int32.ofNat r)
    (fb : ∀ a j, 14 ≤ a ∨ a < 10 → φ2 a j = φ a j) (gb : ∀ a j, ¬ (a = 0 ∧ (4 ≤ j ∧ j ≤ 11)) → ¬ (a = 3 ∧ j = 15 + sl) → ¬ (a = 2 ∧ (j = 9 ∨ j = 13)) → ¬ ((a = 4 ∨ a = 5) ∧ j = 15 + sl) → ψ2 a j = ψ a j) (c1 : ψ2 2 9 = Int32.ofNat (Hb.length + 1)) (c2 : ψ2 4 (15 + sl) = Int32.ofNat k) (c3 : ψ2 5 (15 + sl) = Int32.ofNat r) (c4 : ψ2 2 13 = Int32.ofNat (Hb.sum + k)) :
    yd_cl n cnt b T W φ ψ t (pa_holeLine_L114 F nR n cnt φ2 (Int32.ofNat k)) (mo_line_L221 F ψ2) := by
  have hcn := yk_cn hK
  obtain ⟨⟨w1, w2, w3, w4, w5, w6, w7, w8, w9, w10, w11⟩, ⟨x1, x2, x3, x4, x5, x6⟩, ⟨y1, y2, y3, y4, y5, y6⟩, z1, z2, z3⟩ := hD
  have ei : pr_addHole F nR n cnt φ2 (Int32.ofNat k) (Int32.ofNat r) = some (qm_u (qm_u (qm_u (qm_u φ2 16 Hb.length (Int32.ofNat k)) 17 Hb.length (Int32.ofNat r)) 14 6 (Int32.ofNat (Hb.sum + k))) 14 2 (Int32.ofNat (Hb.length + 1))) := by
    unfold pr_addHole
    rw [fb 14 2 (by omega), fb 14 6 (by omega), x3, x6, if_neg (by rw [show (5 : Int32) = Int32.ofNat 5 from rfl, ya_le (by omega) (by omega)]; omega), ya_in (by omega) (by omega), ya_nn (by omega), ya_add, ya_add1]
    rfl
  obtain ⟨φ3, e3⟩ : ∃ φ3, φ3 = qm_u (qm_u (qm_u (qm_u φ2 16 Hb.length (Int32.ofNat k)) 17 Hb.length (Int32.ofNat r)) 14 6 (Int32.ofNat (Hb.sum + k))) 14 2 (Int32.ofNat (Hb.length + 1)) := ⟨_, rfl⟩
  have f3 : ∀ a j, ¬ ((a = 16 ∨ a = 17) ∧ j = Hb.length) → ¬ (a = 14 ∧ (j = 6 ∨ j = 2)) → φ3 a j = φ2 a j := by
    intro a j h1 h2
    rw [e3]
    unfold qm_u
    repeat' split
    all_goals first | rfl | omega
  unfold pa_holeLine_L114 mo_line_L221
  rw [e4, ei, ← e3]
  simp only [yb1]
  have S3 : ys_S n cnt b T t2 0 0 0 0 0 (L ++ [(sl, t + 1)]) φ3 ψ2 := S2.cg (fun a j hh => f3 a j (by omega) (by omega)) (fun _ _ _ => rfl)
  rcases ys_takes (nR := nR) hK S3 59 (by decide) with ⟨qq, φ4, ψ4, e8, e9, S4, gx4, gm4⟩ | ⟨qq, φ4, ψ4, e8, e9, hbad⟩
  · rw [e8, e9]
    simp only [yb2, yg01, yg1]
    have fc : ∀ a j, 14 ≤ a ∨ a < 10 → ¬ ((a = 16 ∨ a = 17) ∧ j = Hb.length) → ¬ (a = 14 ∧ (j = 6 ∨ j = 2)) → φ4 a j = φ a j := fun a j ha h1 h2 => by
      rw [gx4 a j (by omega), f3 a j h1 h2, fb a j ha]
    have gc : ∀ a j, ¬ (a = 0 ∧ (4 ≤ j ∧ j ≤ 11)) → ¬ (a = 3 ∧ j = 15 + sl) → ¬ (a = 2 ∧ (j = 9 ∨ j = 13)) → ¬ ((a = 4 ∨ a = 5) ∧ j = 15 + sl) → ψ4 a j = ψ a j := fun a j h1 h2 h3 h4 => by
      rw [gm4 a j (by omega), gb a j h1 h2 h3 h4]
    refine Or.inl ⟨φ4, ψ4, t2 + 1, L ++ [(sl, t + 1)], Ib, Hb ++ [k], Hr ++ [r], v, rfl, rfl, by omega, S4, ⟨⟨w1, w2, w3, ?_, ?_, w6, w7, ?_, w9, ?_, ?_⟩, ⟨?_, ?_, ?_, ?_, ?_, ?_⟩, ⟨?_, ?_, ?_, ?_, ?_, ?_⟩, ?_, ?_, ?_⟩, ⟨?_, ?_⟩, ?_, ?_⟩
    · simp; omega
    · simp; omega
    · simp; omega
    · exact yd_mem w10 ⟨k1, k2⟩
    · exact yd_mem w11 hr
    · rw [fc 14 0 (by omega) (by omega) (by omega)]; exact x1
    · rw [fc 14 1 (by omega) (by omega) (by omega)]; exact x2
    · rw [gx4 14 2 (by omega), e3]; simp [qm_u]
    · rw [fc 14 3 (by omega) (by omega) (by omega)]; exact x4
    · rw [fc 14 5 (by omega) (by omega) (by omega)]; exact x5
    · rw [gx4 14 6 (by omega), e3]; simp [qm_u]
    · rw [gc 2 7 (by omega) (by omega) (by omega) (by omega)]; exact y1
    · rw [gc 2 8 (by omega) (by omega) (by omega) (by omega)]; exact y2
    · rw [gm4 2 9 (by omega)]; simp only [List.length_append, List.length_cons, List.length_nil, Nat.zero_add]; exact c1
    · rw [gc 2 10 (by omega) (by omega) (by omega) (by omega)]; exact y4
    · rw [gc 2 12 (by omega) (by omega) (by omega) (by omega)]; exact y5
    · rw [gm4 2 13 (by omega)]; simp only [List.sum_append, List.sum_cons, List.sum_nil, Nat.add_zero]; exact c4
    · intro j x hx
      have hj := (List.getElem?_eq_some_iff.mp hx).1
      rw [fc 15 j (by omega) (by omega) (by omega), gc 4 _ (by omega) (by omega) (by omega) (by omega)]
      exact z1 j x hx
    · refine yd_app (fun j x hx => ?_) ?_
      · have hj := (List.getElem?_eq_some_iff.mp hx).1
        rw [fc 16 j (by omega) (by omega) (by omega), gc 4 _ (by omega) (by omega) (by omega) (by omega)]
        exact z2 j x hx
      · constructor
        · rw [gx4 16 _ (by omega), e3]; simp [qm_u]
        · rw [gm4 4 _ (by omega), show 18 + Hb.length = 15 + sl by omega]; exact c2
    · refine yd_app (fun j x hx => ?_) ?_
      · have hj := (List.getElem?_eq_some_iff.mp hx).1
        rw [fc 17 j (by omega) (by omega) (by omega), gc 5 _ (by omega) (by omega) (by omega) (by omega)]
        exact z3 j x hx
      · constructor
        · rw [gx4 17 _ (by omega), e3, w5]; simp [qm_u]
        · rw [gm4 5 _ (by omega), show 18 + Hr.length = 15 + sl by omega]; exact c3
    · intro p hp
      rcases List.mem_append.mp hp with hp | hp
      · have := hL.1 p hp
        simp only [List.length_append, List.length_cons, List.length_nil]
        omega
      · simp at hp; subst hp
        simp only [List.length_append, List.length_cons, List.length_nil]
        omega
    · have := hL.2
      simp only [List.length_append, List.length_cons, List.length_nil]
      omega
    · intro a j ha
      exact fc a j (by omega) (by omega) (by omega)
    · intro a j h1 h2 h3 h4 h5 h6
      exact gc a j (by omega) (by omega) (by omega) (by omega)
  · rw [e8, e9]
    simp only [yb2, yg0, yg1]
    refine Or.inr ⟨φ4, ψ4, rfl, rfl, hbad.pre (fun a j ha => ?_) (fun a j h1 h2 h3 h4 h5 h6 => ?_)⟩
    · rw [f3 a j (by omega) (by omega), fb a j (by omega)]
    · rw [gb a j (by omega) (by omega) (by omega) (by omega)]
/-- hole NAME NUMBER [ rank NUMBER ] ; -/
theorem yd_hole (hF : 2000 ≤ F) (hK : yk_TK F n cnt b T) (h : ys_S n cnt b T t 0 0 0 0 0 L φ ψ) (hD : yd_D W Ib Hb Hr v φ ψ) (hL : yd_L Ib.length Hb.length v L) (hk : T 0 t = 130) : yd_cl n cnt b T W φ ψ t (pa_holeLine F nR n cnt φ) (mo_line F ψ) := by
  have hcn := yk_cn hK
  have h' := h
  obtain ⟨ht, hX, hM, -⟩ := h'
  have hD' := hD
  obtain ⟨⟨w1, w2, w3, w4, w5, w6, w7, w8, w9, w10, w11⟩, ⟨x1, x2, x3, x4, x5, x6⟩, ⟨y1, y2, y3, y4, y5, y6⟩, z1, z2, z3⟩ := hD'
  have hm : mo_line F ψ = qb2 (if 5 ≤ Hb.length then some (-1, qm_u (qm_u ψ 0 9 5) 0 10 (ψ 0 4)) else yd_lm F ψ (Int32.ofNat 2) (Int32.ofNat Hb.length) (Int32.ofNat 3)) fun y2 φ1 => if 0 ≤ y2 then mo_line_L40 F φ1 (Int32.ofNat 2) y2 (Int32.ofNat 6) else some (0, φ1) := by
    unfold mo_line
    rw [ym_own hK hM ht, show yk_own (T 0 t) = Int32.ofNat 2 by rw [hk]; decide]
    simp only [yb1]
    rw [yd_tn ψ hM.2.2.2.1 hM.2.2.1 (kd := 2) (wh := 2) (most := 5) (base := 3) (Or.inr (Or.inl rfl)) y3 (by omega)]
    rfl
  rw [hm]
  unfold pa_holeLine
  rw [x3]
  by_cases q3 : Hb.length < 5
  · rw [if_pos (by rw [show (5 : Int32) = Int32.ofNat 5 from rfl, ya_lt (by omega) (by omega)]; exact q3), if_neg (by omega), hX.1, ya_add1]
    rcases yd_name (nR := nR) (wh := 2) (k := Hb.length) (s0 := 3) hF hK h (by rw [hk]; decide) (by omega) (by omega) (by rw [hL.2]; omega) (fun p hp => by have := hL.1 p hp; omega) with ⟨φ1, ψ1, e1, e2, f1, e3, e4, S1, g1, c1⟩ | ⟨φ1, ψ1, e1, e4, hbad⟩
    · rw [e1, e4]
      simp only [yb2]
      rw [if_pos (by decide), if_pos (ya_ge0 (by omega)), e2, f1 14 2 (by omega), x3]
      rw [show (3 : Int32) + Int32.ofNat Hb.length = Int32.ofNat (3 + Hb.length) from ya_add 3 _, e3]
      simp only [yb1]
      have f2 := ys_laf φ1 L.length (T 3 (t + 1)) (3 + Hb.length)
      have fa : ∀ a j, 14 ≤ a ∨ a < 10 → ys_la φ1 L.length (T 3 (t + 1)) (3 + Hb.length) a j = φ a j := fun a j ha => by rw [f2 a j (by omega) (by omega), f1 a j (by omega)]
      rw [fa 14 6 (by omega), x6]
      rcases yd_bits (nR := nR) (sl := 3 + Hb.length) (x3 := 6) (kd := 2) hK S1 (by rw [fa 14 0 (by omega)]; exact x1) (by rw [g1 2 7 (by omega) (by omega) (by omega)]; exact y1) w2 w8 (Or.inr rfl) (by rw [g1 2 _ (by omega) (by omega) (by omega)]; exact y6) (by omega) with ⟨k, φ2, ψ2, k1, k2, k3, k4, e5, S2, e6, gx2, e7, g2, c2, c3, c4⟩ | ⟨φ2, ψ2, e5, e7, hbad⟩
      · rw [e5, e7]
        simp only [yb2]
        rw [if_pos (by decide), if_neg (by decide), e6]
        have fb : ∀ a j, 14 ≤ a ∨ a < 10 → φ2 a j = φ a j := fun a j ha => by rw [gx2 a j (by omega), fa a j ha]
        have gb : ∀ a j, ¬ (a = 0 ∧ (4 ≤ j ∧ j ≤ 11)) → ¬ (a = 3 ∧ j = 15 + (3 + Hb.length)) → ¬ (a = 2 ∧ (j = 9 ∨ j = 13)) → ¬ ((a = 4 ∨ a = 5) ∧ j = 15 + (3 + Hb.length)) → ψ2 a j = ψ a j := fun a j h1 h2 h3 h4 => by
          rw [g2 a j (by omega) (by omega) (by omega), g1 a j (by omega) (by omega) (by omega)]
        have c9 : ψ2 2 9 = Int32.ofNat (Hb.length + 1) := by rw [g2 2 9 (by omega) (by omega) (by omega)]; exact c1
        have S3 : ys_S n cnt b T (t + 2 + 1) 0 0 0 0 0 (L ++ [(3 + Hb.length, t + 1)]) (qm_u φ2 10 4 1) ψ2 := S2.cg (fun a j hh => by
          unfold qm_u
          repeat' split
          all_goals first | rfl | omega) (fun _ _ _ => rfl)
        have ht3 := S3.1
        have fb3 : ∀ a j, 14 ≤ a ∨ a < 10 → (qm_u φ2 10 4 1) a j = φ a j := fun a j ha => by rw [ys_u104 _ a j (by omega), fb a j ha]
        rw [yx_kind S3.2.1 ht3 (by omega) (by omega), ym_own hK S3.2.2.1 ht3]
        simp only [yb1]
        have eo : (yk_own (T 0 (t + 2 + 1)) = 3 ↔ T 0 (t + 2 + 1) = 131) := yk_own_eq (k := T 0 (t + 2 + 1)) (w := 3) (by omega)
        by_cases q131 : T 0 (t + 2 + 1) = 131
        · rw [if_neg (by simp [q131]), if_neg (by simp [eo.mpr q131])]
          obtain ⟨ψ3, e8, S4, f4⟩ := ys_next hK S3 (by rw [q131]; decide) (by rw [q131]; decide)
          rw [e8, S2.2.1.1, ya_add1]
          simp only [yb1]
          rcases ys_num (nR := nR) hK S4 0 9 (by omega) (by omega) with ⟨r, φ5, ψ5, q48, e9, r1, r2, e10, e11, S5, gx5, gm5, v1, v2⟩ | ⟨φ5, ψ5, e10, e11, hbad⟩
          · rw [show pa_takeNumber F nR n cnt (qm_u (qm_u φ2 10 4 1) 10 3 (Int32.ofNat (t + 2 + 1 + 1))) 0 9 = _ from e10, show mo_takesNumber F ψ3 0 9 = _ from e11]
            simp only [yb2]
            rw [if_pos (by decide), if_pos (by decide), ya_in (by omega) (by omega), v2]
            simp only [yg1]
            have S6 : ys_S n cnt b T (t + 2 + 1 + 1 + 1) 0 0 0 0 0 (L ++ [(3 + Hb.length, t + 1)]) φ5 (qm_u ψ5 5 (15 + (3 + Hb.length)) (Int32.ofNat r)) := S5.cg (fun _ _ _ => rfl) (fun a j hh => by
              unfold qm_u
              repeat' split
              all_goals first | rfl | omega)
            have u5 : ∀ a j, ¬ (a = 5 ∧ j = 15 + (3 + Hb.length)) → (qm_u ψ5 5 (15 + (3 + Hb.length)) (Int32.ofNat r)) a j = ψ5 a j := by
              intro a j hh
              unfold qm_u
              repeat' split
              all_goals first | rfl | omega
            refine yd_hend (nR := nR) (L' := L) (sl := 3 + Hb.length) (r := r) (k := k) hK hD hL rfl q3 S6 (by omega) k1 k2 k4 r2 v1 ?_ ?_ ?_ ?_ ?_ ?_
            · intro a j ha
              rw [gx5 a j (by omega), ys_xgx _ a j (by omega), fb3 a j ha]
            · intro a j h1 h2 h3 h4
              rw [u5 a j (by omega), gm5 a j (by omega), f4 a j (by omega), gb a j h1 h2 h3 h4]
            · rw [u5 2 _ (by omega), gm5 2 _ (by omega), f4 2 _ (by omega)]; exact c9
            · rw [u5 4 _ (by omega), gm5 4 _ (by omega), f4 4 _ (by omega)]; exact c2
            · simp [qm_u]
            · rw [u5 2 _ (by omega), gm5 2 _ (by omega), f4 2 _ (by omega)]; exact c4
          · rw [show pa_takeNumber F nR n cnt (qm_u (qm_u φ2 10 4 1) 10 3 (Int32.ofNat (t + 2 + 1 + 1))) 0 9 = _ from e10, show mo_takesNumber F ψ3 0 9 = _ from e11]
            simp only [yb2]
            rw [if_neg (by decide), if_neg (by decide)]
            refine Or.inr ⟨φ5, ψ5, rfl, rfl, hbad.pre (fun a j ha => ?_) (fun a j h1 h2 h3 h4 h5 h6 => ?_)⟩
            · rw [ys_xgx _ a j (by omega), fb3 a j (by omega)]
            · rw [f4 a j (by omega), gb a j (by omega) (by omega) (by omega) (by omega)]
        · rw [if_pos q131, if_pos (fun z => q131 (eo.mp z))]
          exact yd_hend (nR := nR) (L' := L) (sl := 3 + Hb.length) (r := 1) (k := k) hK hD hL rfl q3 S3 (by omega) k1 k2 k4 (by omega) rfl fb3 gb c9 c2 c3 c4
      · rw [e5, e7]
        simp only [yb2]
        rw [if_neg (by decide)]
        exact Or.inr ⟨φ2, ψ2, rfl, rfl, hbad.pre (fun a j ha => fa a j (by omega)) (fun a j h1 h2 h3 h4 h5 h6 => g1 a j (by omega) (by omega) (by omega))⟩
    · rw [e1, e4]
      simp only [yb2]
      rw [if_neg (by decide), if_neg (by decide)]
      exact Or.inr ⟨φ1, ψ1, rfl, rfl, hbad⟩
  · rw [if_neg (by rw [show (5 : Int32) = Int32.ofNat 5 from rfl, ya_lt (by omega) (by omega)]; exact q3), if_pos (by omega), yx_fail hX ht (by omega) (by omega), hM.2.1.1]
    simp only [yb2, yg0, yg1]
    rw [if_neg (by decide)]
    exact Or.inr ⟨_, _, rfl, rfl, ys_fault h (by decide) (ys_lo0 _) (ys_cf0 _)⟩
end Y17
