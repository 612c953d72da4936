/-! SEMANTICS: lines (in, hole, var) -/
section Y16
variable {F nR n cnt t sz cd ns br lt s p : Nat} {b : Nat → Int32} {T φ ψ : qm_F} {L : List (Nat × Nat)}
theorem ys_S.cg {φ' ψ' : qm_F} (h : ys_S n cnt b T t sz cd ns br lt L φ ψ)
    (gx : ∀ a j, (a = 10 ∧ j = 3 ∨ a = 4 ∨ a = 6 ∨ a = 7 ∨ a = 9 ∨ a = 14 ∧ (j = 13 ∨ j = 4) ∨ a = 11 ∨ a = 12 ∨ a = 13) → φ' a j = φ a j)
    (gm : ∀ a j, (a = 0 ∧ (3 ≤ j ∧ j ≤ 9 ∨ j = 13 ∨ j = 21 ∨ j = 29 ∨ j = 30) ∨ a = 1 ∨ a = 2 ∧ j = 11 ∨ a = 3 ∧ 15 ≤ j) → ψ' a j = ψ a j) : ys_S n cnt b T t sz cd ns br lt L φ' ψ' := by
  obtain ⟨a1, ⟨b1, b2, b3, b4, b5⟩, ⟨⟨c1, c2⟩, ⟨d1, d2, d3, d4, d5⟩, c3, c4, c5⟩, a4, a5, a6, a7, a8, a9⟩ := h
  refine ⟨a1, ⟨by rw [gx _ _ (by omega)]; exact b1, by rw [gx _ _ (by omega)]; exact b2, fun s h1 h2 => by rw [gx _ _ (by omega), gx _ _ (by omega)]; exact b3 s h1 h2, fun s hs => by rw [gx _ _ (by omega)]; exact b4 s hs, by rw [gx _ _ (by omega)]; exact b5⟩,
    ⟨⟨by rw [gm _ _ (by omega)]; exact c1, fun j hj => by rw [gm _ _ (by omega)]; exact c2 j hj⟩, ⟨by rw [gm _ _ (by omega)]; exact d1, by rw [gm _ _ (by omega)]; exact d2, by rw [gm _ _ (by omega)]; exact d3, fun q => by rw [gm _ _ (by omega)]; exact d4 q, fun q => by rw [gm _ _ (by omega)]; exact d5 q⟩, by rw [gm _ _ (by omega)]; exact c3, by rw [gm _ _ (by omega)]; exact c4, by rw [gm _ _ (by omega)]; exact c5⟩,
    a4.fr (fun a j ha => gx _ _ (by omega)) (fun j hj => gm _ _ (by omega)), by rw [gx _ _ (by omega)]; exact a5, by rw [gm _ _ (by omega)]; exact a6, by rw [gm _ _ (by omega)]; exact a7, by rw [gm _ _ (by omega)]; exact a8, a9⟩
theorem yd_ix (h : ψ 0 13 = 1) {i : Nat} (hi : i < 7) : qm_in ((7 * ψ 0 13) + Int32.ofNat i) 14 = true ∧ ((7 * ψ 0 13) + Int32.ofNat i).toNatClampNeg = 7 + i := by
  have e : (7 : Int32) * 1 + Int32.ofNat i = Int32.ofNat (7 + i) := ya_add 7 i
  rw [h, e]
  exact ⟨ya_in (by omega) (by omega), ya_nn (by omega)⟩
theorem yd_had (h : ψ 0 13 = 1) {i : Nat} (hi : i < 7) : mo_had F ψ (Int32.ofNat i) = some (ψ 2 (7 + i)) := by
  unfold mo_had
  rw [(yd_ix h hi).1, (yd_ix h hi).2]
  rfl
theorem yd_tells (h : ψ 0 13 = 1) {i : Nat} (hi : i < 7) (v : Int32) : mo_tells F ψ (Int32.ofNat i) v = some (qm_u ψ 2 (7 + i) v) := by
  unfold mo_tells
  rw [(yd_ix h hi).1, (yd_ix h hi).2]
  rfl
/-- the name of a line: x is its slot, wh where it is counted -/
def yd_lm (F : Nat) (ψ : qm_F) (wh : Int32) (k s0 : Int32) : Option (Int32 × qm_F) :=
  qb1 (mo_steps F ψ) fun φ2 => qb2 (mo_newName F φ2) fun y2 φ3 => if ¬ y2 = 0 then mo_tellsName_L101 F φ3 wh k s0 else some ((-1), φ3)
theorem yd_name (hF : 2000 ≤ F) (hK : yk_TK F n cnt b T) (h : ys_S n cnt b T t sz cd ns br 0 L φ ψ) (h0 : T 0 t ≠ 0 ∧ T 0 t ≠ 1) {wh k s0 : Nat} (hwh : 1 ≤ wh ∧ wh ≤ 3) (hsl : s0 + k < 12) (hL : L.length < 12) (hks : ∀ p, p ∈ L → p.1 ≠ s0 + k) :
    (∃ φ' ψ', pa_takeNewName F nR n cnt (qm_u φ 10 3 (Int32.ofNat (t + 1))) = some (1, φ') ∧ φ' 10 4 = T 3 (t + 1) ∧ (∀ a j, ¬ (a = 10 ∧ (j = 3 ∨ j = 4)) → φ' a j = φ a j) ∧ na_add F nR n cnt φ' (T 3 (t + 1)) (Int32.ofNat (s0 + k)) = some (ys_la φ' L.length (T 3 (t + 1)) (s0 + k)) ∧
      yd_lm F ψ (Int32.ofNat wh) (Int32.ofNat k) (Int32.ofNat s0) = some (Int32.ofNat (s0 + k), ψ') ∧ ys_S n cnt b T (t + 2) sz cd ns br 0 (L ++ [(s0 + k, t + 1)]) (ys_la φ' L.length (T 3 (t + 1)) (s0 + k)) ψ' ∧ (∀ a j, ¬ (a = 0 ∧ (4 ≤ j ∧ j ≤ 8)) → ¬ (a = 3 ∧ j = 15 + (s0 + k)) → ¬ (a = 2 ∧ j = 7 + wh) → ψ' a j = ψ a j) ∧ ψ' 2 (7 + wh) = Int32.ofNat (k + 1)) ∨
    (∃ φ' ψ', pa_takeNewName F nR n cnt (qm_u φ 10 3 (Int32.ofNat (t + 1))) = some (0, φ') ∧ yd_lm F ψ (Int32.ofNat wh) (Int32.ofNat k) (Int32.ofNat s0) = some (-1, ψ') ∧ ys_bad φ ψ φ' ψ') := by
  obtain ⟨ψ1, e1, S1, f1⟩ := ys_next hK h h0.1 h0.2
  unfold yd_lm
  rw [e1]
  simp only [yb1]
  rcases ys_new (nR := nR) hF hK S1 with ⟨q97, hno, x1, x2⟩ | ⟨φ2, ψ2, x1, x2, hbad⟩
  · rw [x2]
    simp only [yb2]
    rw [if_pos (by decide)]
    have hw : ψ1 0 8 = T 4 (t + 1) := S1.2.2.1.2.1.2.2.2.2 (by rw [q97]; decide)
    have hb1 := S1.2.2.1.2.2.2.1
    have e15 : (15 : Int32) * 1 + (Int32.ofNat s0 + Int32.ofNat k) = Int32.ofNat (15 + (s0 + k)) := by
      rw [ya_add]; exact ya_add 15 (s0 + k)
    have hb1' : (qm_u ψ1 3 (15 + (s0 + k)) (T 4 (t + 1))) 0 13 = 1 := hb1
    have S1' : ys_S n cnt b T (t + 1) sz cd ns br 0 L (qm_u (qm_u φ 10 3 (Int32.ofNat (t + 1))) 10 4 (T 3 (t + 1))) ψ1 := S1.mv S1.1 (Nat.le_refl _) rfl S1.2.2.1.2.1 S1.2.2.1.2.2.1 (ys_u104 _) (fun _ _ _ => rfl)
    have S2 : ys_S n cnt b T (t + 1) sz cd ns br 0 (L ++ [(s0 + k, t + 1)]) (ys_la (qm_u (qm_u φ 10 3 (Int32.ofNat (t + 1))) 10 4 (T 3 (t + 1))) L.length (T 3 (t + 1)) (s0 + k)) (qm_u (qm_u ψ1 3 (15 + (s0 + k)) (T 4 (t + 1))) 2 (7 + wh) (Int32.ofNat (k + 1))) := by
      obtain ⟨a1, ⟨b1, b2, b3, b4, b5⟩, ⟨⟨c1, c2⟩, ⟨d1, d2, d3, d4, d5⟩, c3, c4, c5⟩, a4, a5, a6, a7, a8, a9, a10⟩ := S1'
      refine ⟨a1, ⟨b1, b2, b3, b4, b5⟩, ⟨⟨c1, c2⟩, ⟨d1, d2, d3, d4, d5⟩, c3, c4, c5⟩, ?_, a5, ?_, a7, a8, ?_, ?_⟩
      · refine yn_add a4 (by omega) a1 q97 hno (by omega) hks rfl ?_ ?_ ?_ ?_ ?_
        · simp [ys_la, qm_u]
        · simp [ys_la, qm_u]
        · intro a j ha hj
          exact ys_laf _ _ _ _ a j (by omega) (by omega)
        · simp [qm_u]
        · intro j hj hne
          simp [qm_u, hne]
      · have : (11 : Nat) ≠ 7 + wh := by omega
        rw [← a6]
        simp [qm_u, this]
      · intro p hp
        rcases List.mem_append.mp hp with hp | hp
        · exact a9 p hp
        · simp at hp; subst hp; exact hsl
      · simp; omega
    obtain ⟨ψ3, e3, S3, f3⟩ := ys_next hK S2 (by rw [q97]; decide) (by rw [q97]; decide)
    have hm : mo_tellsName_L101 F ψ1 (Int32.ofNat wh) (Int32.ofNat k) (Int32.ofNat s0) = some (Int32.ofNat (s0 + k), ψ3) := by
      unfold mo_tellsName_L101
      rw [hb1, e15, ya_in (by omega) (by omega), ya_nn (by omega), hw, yd_tells hb1' (by omega), ya_add1]
      simp only [yb1, yg1]
      rw [e3, ya_add]
      rfl
    have ela : qm_u (ys_la (qm_u (qm_u φ 10 3 (Int32.ofNat (t + 1))) 10 4 (T 3 (t + 1))) L.length (T 3 (t + 1)) (s0 + k)) 10 3 (Int32.ofNat (t + 1 + 1)) = ys_la (qm_u (qm_u (qm_u φ 10 3 (Int32.ofNat (t + 1))) 10 4 (T 3 (t + 1))) 10 3 (Int32.ofNat (t + 1 + 1))) L.length (T 3 (t + 1)) (s0 + k) := by
      funext a j
      by_cases h1 : a = 10
      · subst h1; rfl
      · simp [ys_la, qm_u, h1]
    rw [ela] at S3
    refine Or.inl ⟨_, ψ3, x1, rfl, ?_, ys_addx (by exact S1.2.2.2.1.1) (by omega) _ _, hm, S3, ?_, ?_⟩
    · intro a j hh
      unfold qm_u
      repeat' split
      all_goals first | rfl | omega
    · intro a j y1 y2 y3
      rw [f3 a j (by omega)]
      have : (qm_u (qm_u ψ1 3 (15 + (s0 + k)) (T 4 (t + 1))) 2 (7 + wh) (Int32.ofNat (k + 1))) a j = ψ1 a j := by
        unfold qm_u
        repeat' split
        all_goals first | rfl | omega
      rw [this, f1 a j (by omega)]
    · rw [f3 2 _ (by omega)]
      simp [qm_u]
  · rw [x2]
    simp only [yb2]
    rw [if_neg (by decide)]
    exact Or.inr ⟨φ2, ψ2, x1, rfl, hbad.pre (ys_xgx _).lo (ys_mgm f1).cf⟩
/-- the bits of a line -/
theorem yd_bits (hK : yk_TK F n cnt b T) (h : ys_S n cnt b T t sz cd ns br lt L φ ψ) {W sm sl x3 kd : Nat} (hW : φ 14 0 = Int32.ofNat W) (hW' : ψ 2 7 = Int32.ofNat W) (hW16 : W ≤ 16) (hsm : sm ≤ 7) (hx3 : x3 = 5 ∨ x3 = 6) (hs : ψ 2 (7 + x3) = Int32.ofNat sm) (hsl : sl < 15) :
    (∃ k φ' ψ', 1 ≤ k ∧ k ≤ 6 ∧ k ≤ W ∧ sm + k ≤ 7 ∧ pa_takeBits F nR n cnt φ (Int32.ofNat sm) = some (1, φ') ∧ ys_S n cnt b T (t + 1) sz cd ns br lt L φ' ψ' ∧ φ' 10 4 = Int32.ofNat k ∧ ys_gx φ φ' ∧
      mo_line_L40 F ψ (Int32.ofNat kd) (Int32.ofNat sl) (Int32.ofNat x3) = (if ¬ Int32.ofNat kd = 2 then mo_line_L221 F ψ' else qb1 (mo_own F ψ') fun y3 => if ¬ y3 = 3 then mo_line_L221 F ψ' else qb1 (mo_steps F ψ') fun φ4 => qb2 (mo_takesNumber F φ4 0 9) fun y4 φ5 => if ¬ y4 = 0 then qg (qm_in (Int32.ofNat (15 + sl)) 30) <| mo_line_L221 F (qm_u φ5 5 (15 + sl) (φ5 0 11)) else some (0, φ5)) ∧
      (∀ a j, ¬ (a = 0 ∧ (4 ≤ j ∧ j ≤ 8)) → ¬ ((a = 4 ∨ a = 5) ∧ j = 15 + sl) → ¬ (a = 2 ∧ j = 7 + x3) → ψ' a j = ψ a j) ∧ ψ' 4 (15 + sl) = Int32.ofNat k ∧ ψ' 5 (15 + sl) = 1 ∧ ψ' 2 (7 + x3) = Int32.ofNat (sm + k)) ∨
    (∃ φ' ψ', pa_takeBits F nR n cnt φ (Int32.ofNat sm) = some (0, φ') ∧ mo_line_L40 F ψ (Int32.ofNat kd) (Int32.ofNat sl) (Int32.ofNat x3) = some (0, ψ') ∧ ys_bad φ ψ φ' ψ') := by
  have hcn := yk_cn hK
  have h' := h
  obtain ⟨ht, hX, hM, -⟩ := h'
  have hb1 := hM.2.2.2.1
  have e15 : (15 : Int32) * 1 + Int32.ofNat sl = Int32.ofNat (15 + sl) := ya_add 15 sl
  have e1 : (1 : Int32) = Int32.ofNat 1 := rfl
  have e6 : (6 : Int32) = Int32.ofNat 6 := rfl
  have e7 : (7 : Int32) = Int32.ofNat 7 := rfl
  by_cases q : T 0 t = 48
  · have ev : ψ 0 7 = T 3 t := hM.2.1.2.2.2.1 q
    obtain ⟨k, hk, e3⟩ : ∃ k, k < 100000 ∧ T 3 t = Int32.ofNat k := by
      obtain ⟨-, -, -, -, -, -, -, -, -, k10, -⟩ := hK
      exact k10 t ht q
    have hX1 : yp_X n cnt T t sz (qm_u φ 10 4 (Int32.ofNat k)) := ⟨hX.1, hX.2.1, hX.2.2.1, hX.2.2.2.1, hX.2.2.2.2⟩
    have hbad : pa_takeBits_L61 F nR n cnt (qm_u φ 10 4 (Int32.ofNat k)) = some (0, qm_u (qm_u φ 10 4 (Int32.ofNat k)) 10 5 (8 * T 1 t + 4)) := by
      unfold pa_takeBits_L61
      rw [yx_fail hX1 ht (by omega) (by omega)]
      rfl
    have hx : pa_takeBits F nR n cnt φ (Int32.ofNat sm) = if 1 ≤ k ∧ k ≤ 6 ∧ k ≤ W then (if sm + k ≤ 7 then some (1, qm_u (qm_u φ 10 4 (Int32.ofNat k)) 10 3 (Int32.ofNat (t + 1))) else some (0, qm_u (qm_u φ 10 4 (Int32.ofNat k)) 10 5 (8 * T 1 t + 5))) else some (0, qm_u (qm_u φ 10 4 (Int32.ofNat k)) 10 5 (8 * T 1 t + 4)) := by
      unfold pa_takeBits
      rw [yx_kind hX ht (by omega) (by omega)]
      simp only [yb1]
      rw [if_pos q, yx_number hX ht (by omega) (by omega), e3, hX.1, ya_add1, hW]
      simp only [yb1, hbad]
      rw [yx_fail hX1 ht (by omega) (by omega), ya_add]
      simp only [yb2, yg0, yg1]
      by_cases q1 : 1 ≤ k ∧ k ≤ 6 ∧ k ≤ W
      · rw [if_pos q1, if_neg (by rw [show (1 : Int32) = Int32.ofNat 1 from rfl, ya_lt (by omega) (by omega)]; omega), if_neg (by rw [show (6 : Int32) = Int32.ofNat 6 from rfl, ya_lt (by omega) (by omega)]; omega), if_pos (by rw [ya_le (by omega) (by omega)]; omega)]
        by_cases q2 : sm + k ≤ 7
        · rw [if_pos q2, if_pos (by rw [show (7 : Int32) = Int32.ofNat 7 from rfl, ya_le (by omega) (by omega)]; omega)]
        · rw [if_neg q2, if_neg (by rw [show (7 : Int32) = Int32.ofNat 7 from rfl, ya_le (by omega) (by omega)]; omega)]
      · rw [if_neg q1]
        split
        · rfl
        · rename_i q2
          rw [show (1 : Int32) = Int32.ofNat 1 from rfl, ya_lt (by omega) (by omega)] at q2
          split
          · rfl
          · rename_i q3
            rw [show (6 : Int32) = Int32.ofNat 6 from rfl, ya_lt (by omega) (by omega)] at q3
            rw [if_neg (by rw [ya_le (by omega) (by omega)]; omega)]
    have hm : mo_line_L40 F ψ (Int32.ofNat kd) (Int32.ofNat sl) (Int32.ofNat x3) = if 1 ≤ k ∧ k ≤ 6 ∧ k ≤ W then (if sm + k ≤ 7 then mo_line_L134 F ψ (Int32.ofNat kd) (Int32.ofNat x3) (Int32.ofNat (15 + sl)) 1 else some (0, qm_u (qm_u ψ 0 9 5) 0 10 (T 1 t))) else some (0, qm_u (qm_u ψ 0 9 4) 0 10 (T 1 t)) := by
      have l106a : mo_line_L106 F ψ (Int32.ofNat kd) (Int32.ofNat x3) (Int32.ofNat (15 + sl)) 0 = some (0, qm_u (qm_u ψ 0 9 4) 0 10 (T 1 t)) := by
        unfold mo_line_L106
        rw [ym_must0 hM (by decide)]
        rfl
      have l106b : mo_line_L106 F ψ (Int32.ofNat kd) (Int32.ofNat x3) (Int32.ofNat (15 + sl)) 1 = if sm + k ≤ 7 then mo_line_L134 F ψ (Int32.ofNat kd) (Int32.ofNat x3) (Int32.ofNat (15 + sl)) 1 else some (0, qm_u (qm_u ψ 0 9 5) 0 10 (T 1 t)) := by
        unfold mo_line_L106
        rw [ym_must1 hM]
        simp only [yb2]
        rw [if_neg (by decide), yd_had hb1 (by omega), hs, ev, e3]
        simp only [yb1]
        rw [ya_add]
        by_cases q2 : sm + k ≤ 7
        · rw [if_pos q2, if_neg (by rw [show (7 : Int32) = Int32.ofNat 7 from rfl, ya_lt (by omega) (by omega)]; omega)]
        · rw [if_neg q2, if_pos (by rw [show (7 : Int32) = Int32.ofNat 7 from rfl, ya_lt (by omega) (by omega)]; omega)]
          unfold mo_line_L134
          rw [ym_must0 hM (by decide)]
          rfl
      unfold mo_line_L40 mo_line_L66 mo_line_L105
      rw [hM.2.1.2.2.1, if_neg (by rw [q]; decide), ym_must1 hM, hb1, e15]
      simp only [yb2]
      rw [if_neg (by decide), l106a, l106b, show mo_had F ψ 0 = some (ψ 2 7) from yd_had (i := 0) hb1 (by omega), show (1 : Int64) = Int32.toInt64 1 from by decide, show (6 : Int64) = Int32.toInt64 6 from by decide, ys_wi, ev, e3, hW']
      simp only [yb1]
      by_cases q1 : 1 ≤ k ∧ k ≤ 6
      · have e2 : (if Int32.ofNat k < 1 then (0 : Int32) else if Int32.ofNat k ≤ 6 then 1 else 0) = 1 := by
          rw [if_neg (by rw [show (1 : Int32) = Int32.ofNat 1 from rfl, ya_lt (by omega) (by omega)]; omega), if_pos (by rw [show (6 : Int32) = Int32.ofNat 6 from rfl, ya_le (by omega) (by omega)]; omega)]
        rw [e2, if_neg (by decide)]
        by_cases q2 : k ≤ W
        · have q3 : 1 ≤ k ∧ k ≤ 6 ∧ k ≤ W := ⟨q1.1, q1.2, q2⟩
          rw [if_neg (by rw [ya_lt (by omega) (by omega)]; omega)]
          simp only [q3, and_self, if_true]
        · rw [if_pos (by rw [ya_lt (by omega) (by omega)]; omega), if_neg (by omega)]
      · have e2 : (if Int32.ofNat k < 1 then (0 : Int32) else if Int32.ofNat k ≤ 6 then 1 else 0) = 0 := by
          split
          · rfl
          · rename_i q2
            rw [show (1 : Int32) = Int32.ofNat 1 from rfl, ya_lt (by omega) (by omega)] at q2
            rw [if_neg (by rw [show (6 : Int32) = Int32.ofNat 6 from rfl, ya_le (by omega) (by omega)]; omega)]
        rw [e2, if_pos rfl, if_neg (by omega)]
    by_cases q1 : 1 ≤ k ∧ k ≤ 6 ∧ k ≤ W
    · rw [if_pos q1] at hx hm
      by_cases q2 : sm + k ≤ 7
      · rw [if_pos q2] at hx hm
        obtain ⟨ψa, ea⟩ : ∃ ψa, ψa = qm_u (qm_u (qm_u ψ 4 (15 + sl) (Int32.ofNat k)) 5 (15 + sl) 1) 2 (7 + x3) (Int32.ofNat (sm + k)) := ⟨_, rfl⟩
        have fa : ∀ a j, ¬ ((a = 4 ∨ a = 5) ∧ j = 15 + sl) → ¬ (a = 2 ∧ j = 7 + x3) → ψa a j = ψ a j := by
          intro a j y1 y2
          rw [ea]
          unfold qm_u
          repeat' split
          all_goals first | rfl | omega
        have Sa : ys_S n cnt b T t sz cd ns br lt L (qm_u φ 10 4 (Int32.ofNat k)) ψa := h.cg (fun a j hh => by
          unfold qm_u
          repeat' split
          all_goals first | rfl | omega) (fun a j hh => fa a j (by omega) (by omega))
        obtain ⟨ψ', e, S', f⟩ := ys_next hK Sa (by rw [q]; decide) (by rw [q]; decide)
        have hb2 : (qm_u (qm_u ψ 4 (15 + sl) (Int32.ofNat k)) 5 (15 + sl) 1) 0 13 = 1 := hb1
        have hs2 : (qm_u (qm_u ψ 4 (15 + sl) (Int32.ofNat k)) 5 (15 + sl) 1) 2 (7 + x3) = Int32.ofNat sm := hs
        refine Or.inl ⟨k, _, ψ', q1.1, q1.2.1, q1.2.2, q2, hx, S', rfl, ?_, ?_, ?_, ?_, ?_, ?_⟩
        · intro a j hh
          rw [ys_xgx (t + 1) a j hh, ys_u104 _ a j hh]
        · rw [hm]
          unfold mo_line_L134
          rw [ym_must1 hM]
          simp only [yb2]
          rw [if_pos (by decide), ya_in (by omega) (by omega), ya_nn (by omega), ev, e3, yd_had hb2 (by omega), hs2]
          simp only [yb1, yg1]
          rw [yd_tells hb2 (by omega), ya_add, ← ea]
          simp only [yb1]
          rw [e]
          rfl
        · intro a j y1 y2 y3
          rw [f a j (by omega), fa a j y2 y3]
        · rw [f 4 _ (by omega), ea]; simp [qm_u]
        · rw [f 5 _ (by omega), ea]; simp [qm_u]
        · rw [f 2 _ (by omega), ea]; simp [qm_u]
      · rw [if_neg q2] at hx hm
        exact Or.inr ⟨_, _, hx, hm, ys_fault h (by decide) (ys_u104 _).lo (ys_cf0 _)⟩
    · rw [if_neg q1] at hx hm
      exact Or.inr ⟨_, _, hx, hm, ys_fault h (by decide) (ys_u104 _).lo (ys_cf0 _)⟩
  · refine Or.inr ⟨_, _, ?_, ?_, ys_fault (f := 1) h (by decide) (ys_lo0 _) (ys_cf0 _)⟩
    · unfold pa_takeBits
      rw [yx_kind hX ht (by omega) (by omega)]
      simp only [yb1]
      rw [if_neg q, yx_fail hX ht (by omega) (by omega)]
      rfl
    · unfold mo_line_L40 mo_line_L66
      rw [hM.2.1.2.2.1, if_pos (yk_cls2 q), ym_must0 hM (by decide)]
      rfl
end Y16
