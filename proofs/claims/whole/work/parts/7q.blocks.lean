/-! SEMANTICS: runs, statements on both sides -/
def rn_T (ψ : qm_F) : qm_F := fun s k => ψ 6 (6 * s + k)
/-- from φ with k steps both come to q or stop; w moves beyond those that steps pay for -/
def rn_R (F nR nN nT gg : Nat) (φ0 ψ0 : qm_F) (br q w k : Nat) (φ ψ' : qm_F) : Prop :=
  (∃ mv φ' k', rx_MV F nR nN nT gg mv φ φ' ∧ rn_S φ0 ψ0 q k' 0 φ' ψ' ∧ k ≤ k' ∧ mv ≤ 802 * (k' - k) + w ∧ ∀ j, j < br → φ' 28 j = φ 28 j) ∨
  (∃ mv φ' k' v, rx_MV F nR nN nT gg mv φ φ' ∧ rn_X φ0 ψ0 v k' φ' ψ' ∧ k ≤ k' ∧ mv ≤ 802 * (k' - k) + w)
section R3
variable {F nR nN nT gg : Nat} {φ0 ψ0 φ ψ : qm_F} {sz M p k : Nat}
theorem rn_R.pre {br q w w0 k k1 mv1 : Nat} {φ φ1 ψ' : qm_F} (h : rn_R F nR nN nT gg φ0 ψ0 br q w k1 φ1 ψ') (hm : rx_MV F nR nN nT gg mv1 φ φ1) (hk : k ≤ k1) (hw : mv1 + w ≤ 802 * (k1 - k) + w0) (h28 : ∀ j, j < br → φ1 28 j = φ 28 j) : rn_R F nR nN nT gg φ0 ψ0 br q w0 k φ ψ' := by
  rcases h with ⟨mv, φ', k', a1, a2, a3, a4, a5⟩ | ⟨mv, φ', k', v, a1, a2, a3, a4⟩
  · exact Or.inl ⟨mv1 + mv, φ', k', hm.trans a1, a2, by omega, by omega, fun j hj => (a5 j hj).trans (h28 j hj)⟩
  · exact Or.inr ⟨mv1 + mv, φ', k', v, hm.trans a1, a2, by omega, by omega⟩
theorem rn_R.br {br br' q w k : Nat} {φ ψ' : qm_F} (h : rn_R F nR nN nT gg φ0 ψ0 br q w k φ ψ') (hb : br' ≤ br) : rn_R F nR nN nT gg φ0 ψ0 br' q w k φ ψ' := by
  rcases h with ⟨mv, φ', k', a1, a2, a3, a4, a5⟩ | h
  · exact Or.inl ⟨mv, φ', k', a1, a2, a3, a4, fun j hj => a5 j (by omega)⟩
  · exact Or.inr h
theorem rn_of (h : rn_fm ψ0 ψ) {s k : Nat} (hs : s < 24) (hk : k < 6) : mo_ofStatement F ψ (Int32.ofNat s) (Int32.ofNat k) = some (rn_T ψ0 s k) := by
  unfold mo_ofStatement
  have e : (6 : Int32) * Int32.ofNat s + Int32.ofNat k = Int32.ofNat (6 * s + k) := by
    rw [show (6 : Int32) * Int32.ofNat s = Int32.ofNat (6 * s) from ya_mul 6 s, ya_add]
  rw [e, ya_in (by omega) (by omega), ya_nn (by omega), h 6 _ (by omega) (by omega)]
  rfl
theorem rn_eAt (h : rn_fm ψ0 ψ) {s : Nat} (hs : s < 24) : mo_eAt F ψ (Int32.ofNat s) = qb2 (mo_worked F ψ (rn_T ψ0 s 2) (rn_T ψ0 s 3)) fun y3 φ1 => some (y3, φ1) := by
  unfold mo_eAt
  rw [show mo_ofStatement F ψ (Int32.ofNat s) 2 = _ from rn_of (k := 2) h hs (by omega), show mo_ofStatement F ψ (Int32.ofNat s) 3 = _ from rn_of (k := 3) h hs (by omega)]
  rfl
theorem rn_stop {g : Nat → qm_F → Int32 → Int32 → Option (Int32 × qm_F)} {m : Nat} {a b : Int32} (h : ψ 0 38 ≠ -1) (hm : 1 ≤ m) : mo_runs_L2 F g m 0 ψ a b = some ψ := by
  obtain ⟨m, rfl⟩ : ∃ z, m = z + 1 := ⟨m - 1, by omega⟩
  unfold mo_runs_L2
  rw [if_pos rfl]
  split
  · rfl
  · first | rfl | rw [if_pos h]
theorem rn_X.ne {v : Int32} (h : rn_X φ0 ψ0 v k φ ψ) : ψ 0 38 ≠ -1 := by
  obtain ⟨-, -, -, h4, h5, -⟩ := h
  rw [h4]
  rcases h5 with rfl | rfl | rfl | rfl <;> decide
/-- a block's runs, given for all that it needs -/
def rn_B (F nR nN nT gg : Nat) (φ0 ψ0 : qm_F) (sz br s e p q : Nat) : Prop :=
  e ≤ 24 → q ≤ sz → ∀ d m, 3 * (4 - br) + 2 ≤ d → 2 * (e - s) + 2 ≤ m → ∀ (φ ψ : qm_F) (k : Nat), rn_S φ0 ψ0 p k 0 φ ψ → ∃ ψ', mo_runs_L2 F (mg_R F d) m 0 ψ (Int32.ofNat e) (Int32.ofNat s) = some ψ' ∧ rn_R F nR nN nT gg φ0 ψ0 br q (q - p) k φ ψ'
theorem rn_mg {d s e : Nat} {ψ' : qm_F} (h : mo_runs_L2 F (mg_R F d) F 0 ψ (Int32.ofNat e) (Int32.ofNat s) = some ψ') : mg_R F (d + 1) 0 ψ (Int32.ofNat s) (Int32.ofNat e) = some (0, ψ') := by
  show (qb1 (mo_runs F (mg_R F d) ψ (Int32.ofNat s) (Int32.ofNat e)) fun q => some (0, q)) = _
  unfold mo_runs
  rw [h]
  rfl
/-- the rounds of a loop -/
theorem rn_loop (hF : 4000 ≤ F) (hz : φ0 14 13 = Int32.ofNat sz) (hT : sz ≤ nT) (hT2 : sz ≤ 801) {br s s' p y kN d : Nat} (hs : s < 24) (hs' : s' ≤ 24) (hss : s < s') (hbr : br ≤ 3) (hk1 : kN ≤ 9) (t1 : rn_T ψ0 s 1 = Int32.ofNat kN) (t5 : rn_T ψ0 s 5 = Int32.ofNat s') (z2 : φ0 20 (p + 2) = 6) (hy : p + 3 ≤ y) (hysz : y < sz) (zy : φ0 20 y = 10) (zya : φ0 21 y = Int32.ofNat br) (zyg : φ0 22 y = Int32.ofNat (p + 2)) (hB : rn_B F nR nN nT gg φ0 ψ0 sz (br + 1) (s + 1) s' (p + 3) y) (hd : 3 * (4 - (br + 1)) + 3 ≤ d) :
    ∀ (r m i : Nat) (φ ψ : qm_F) (k : Nat), 1 ≤ r → i + r = kN → r + 1 ≤ m → rn_S φ0 ψ0 (p + 2) k 0 φ ψ → φ 28 br = Int32.ofNat r → ∃ ψ', mo_loops_L2 F (mg_R F d) m ψ (Int32.ofNat s) (Int32.ofNat i) = some ψ' ∧ rn_R F nR nN nT gg φ0 ψ0 br (y + 1) 1 k φ ψ' := by
  intro r
  induction r with
  | zero => intro m i φ ψ k h1; omega
  | succ r ih =>
    intro m i φ ψ k h1 h2 h3 hS hr
    obtain ⟨m, rfl⟩ : ∃ z, m = z + 1 := ⟨m - 1, by omega⟩
    obtain ⟨d, rfl⟩ : ∃ z, d = z + 1 := ⟨d - 1, by omega⟩
    obtain ⟨φ1, ψ1, mv1, e1, k28, hc⟩ := rn_step (F := F) (nR := nR) (nN := nN) (gg := gg) hz hT hT2 hS z2 (by omega)
    have f1 : rn_fm ψ0 ψ1 := by
      rcases hc with ⟨_, h⟩ | ⟨_, h⟩
      · exact h.2.1
      · exact h.2.1
    have hst : mo_loops_L2 F (mg_R F (d + 1)) (m + 1) ψ (Int32.ofNat s) (Int32.ofNat i) = qb2 (mg_R F (d + 1) 0 ψ1 (Int32.ofNat (s + 1)) (Int32.ofNat s')) fun _ φ2 => mo_loops_L2 F (mg_R F (d + 1)) m φ2 (Int32.ofNat s) (Int32.ofNat (i + 1)) := by
      conv => lhs; unfold mo_loops_L2
      rw [show mo_ofStatement F ψ (Int32.ofNat s) 1 = _ from rn_of (k := 1) hS.2.1 hs (by omega), t1]
      simp only [yb1]
      rw [if_neg (by rw [ya_le (by omega) (by omega)]; omega), if_neg (by simp [hS.2.2.2.2.2.1]), e1]
      simp only [yb1]
      rw [show mo_ofStatement F ψ1 (Int32.ofNat s) 5 = _ from rn_of (k := 5) f1 hs (by omega), t5, ya_add1, ya_add1]
      rfl
    have stopped : ∀ ψ2, rn_fm ψ0 ψ2 → ψ2 0 38 ≠ -1 → mo_loops_L2 F (mg_R F (d + 1)) m ψ2 (Int32.ofNat s) (Int32.ofNat (i + 1)) = some ψ2 := by
      intro ψ2 f2 hne
      obtain ⟨m, rfl⟩ : ∃ z, m = z + 1 := ⟨m - 1, by omega⟩
      unfold mo_loops_L2
      rw [show mo_ofStatement F ψ2 (Int32.ofNat s) 1 = _ from rn_of (k := 1) f2 hs (by omega)]
      simp only [yb1]
      split
      · rfl
      · first | rfl | rw [if_pos hne]
    rcases hc with ⟨hk, S1⟩ | ⟨hk, X1⟩
    · obtain ⟨ψ2, e2, hR2⟩ := hB hs' (by omega) d F (by omega) (by omega) φ1 ψ1 (k + 1) S1
      rw [rn_mg e2] at hst
      simp only [yb2] at hst
      rcases hR2 with ⟨mv2, φ2, k2, m2, S2, l1, l2, l3⟩ | ⟨mv2, φ2, k2, v, m2, X2, l1, l2⟩
      · have hr2 : φ2 28 br = Int32.ofNat (r + 1) := by rw [l3 br (by omega), k28 br]; exact hr
        obtain ⟨φ3, mv3, S3, r3, o3⟩ := rn_again (F := F) (nR := nR) (nN := nN) (gg := gg) hz hT hT2 S2 hysz hbr zy zya zyg hr2 (by omega)
        have o28 : ∀ j, j < br → φ3 28 j = φ 28 j := fun j hj => by rw [o3 j (by omega), l3 j (by omega), k28 j]
        have mvA := (mv1.trans m2).trans mv3
        by_cases q : r = 0
        · rw [if_pos q] at S3
          refine ⟨ψ2, ?_, Or.inl ⟨1 + mv2 + 1, φ3, k2, mvA, S3, by omega, by omega, o28⟩⟩
          rw [hst]
          obtain ⟨m, rfl⟩ : ∃ z, m = z + 1 := ⟨m - 1, by omega⟩
          unfold mo_loops_L2
          rw [show mo_ofStatement F ψ2 (Int32.ofNat s) 1 = _ from rn_of (k := 1) S2.2.1 hs (by omega), t1]
          simp only [yb1]
          rw [if_pos (by rw [ya_le (by omega) (by omega)]; omega)]
        · rw [if_neg q] at S3
          obtain ⟨ψ4, e4, hR4⟩ := ih m (i + 1) φ3 ψ2 k2 (by omega) (by omega) (by omega) S3 r3
          exact ⟨ψ4, hst.trans e4, hR4.pre mvA (by omega) (by omega) o28⟩
      · refine ⟨ψ2, hst.trans (stopped ψ2 X2.2.1 X2.ne), Or.inr ⟨1 + mv2, φ2, k2, v, mv1.trans m2, X2, by omega, by omega⟩⟩
    · have e2 : mo_runs_L2 F (mg_R F d) F 0 ψ1 (Int32.ofNat s') (Int32.ofNat (s + 1)) = some ψ1 := rn_stop X1.ne (by omega)
      rw [rn_mg e2] at hst
      simp only [yb2] at hst
      exact ⟨ψ1, hst.trans (stopped ψ1 X1.2.1 X1.ne), Or.inr ⟨1, φ1, k, 5, mv1, X1, Nat.le_refl _, by omega⟩⟩
/-- the rounds of a while -/
theorem rn_while (hF : 4000 ≤ F) (hz : φ0 14 13 = Int32.ofNat sz) (hT : sz ≤ nT) (hT2 : sz ≤ 801) (hM : M ≤ 800) (hmk : φ0 26 1 = (1 <<< ((ψ0 2 0) &&& 31)) - 1) {br s s' p r0 y most d : Nat} (hs : s < 24) (hs' : s' ≤ 24) (hss : s < s') (hbr : br ≤ 3) (hk1 : most ≤ 9) (t5 : rn_T ψ0 s 5 = Int32.ofNat s') (hE : yl_E (rn_Z φ0 ψ0) M (rn_T ψ0 s 2) (rn_T ψ0 s 3) (p + 2) r0) (zr : φ0 20 r0 = 12) (zra : φ0 21 r0 = Int32.ofNat br) (zrg : φ0 22 r0 = Int32.ofNat (y + 1)) (z2 : φ0 20 (r0 + 1) = 6) (hy : r0 + 2 ≤ y) (hysz : y < sz) (zy : φ0 20 y = 7) (zyg : φ0 22 y = Int32.ofNat (p + 2)) (hB : rn_B F nR nN nT gg φ0 ψ0 sz (br + 1) (s + 1) s' (r0 + 2) y) (hd : 3 * (4 - (br + 1)) + 3 ≤ d) :
    ∀ (r m i : Nat) (φ ψ : qm_F) (k : Nat), i + r = most → r + 1 ≤ m → rn_S φ0 ψ0 (p + 2) k 0 φ ψ → φ 28 br = Int32.ofNat r → ∃ ψ', mo_whiles_L23 F (mg_R F d) (m + 1) ψ (Int32.ofNat s) (Int32.ofNat most) (Int32.ofNat i) = some ψ' ∧ rn_R F nR nN nT gg φ0 ψ0 br (y + 1) (r0 - (p + 2) + 2) k φ ψ' := by
  have hpr := hE.le
  intro r
  induction r with
  | zero =>
    intro m i φ ψ k h2 h3 hS hr
    rcases rn_ex (F := F) (nR := nR) (nN := nN) (gg := gg) hF hz hT hT2 hM hmk hE (by omega) hS with ⟨x, φ1, ψ1, m1, w1, S1, x1, o1⟩ | ⟨mv1, φ1, ψ1, l1, m1, w1, X1⟩
    · have hst : mo_whiles_L23 F (mg_R F d) (m + 1) ψ (Int32.ofNat s) (Int32.ofNat most) (Int32.ofNat i) = if x = 0 then some ψ1 else some (qm_u ψ1 0 38 4) := by
        conv => lhs; unfold mo_whiles_L23
        rw [if_neg (by simp [hS.2.2.2.2.2.1]), rn_eAt hS.2.1 hs, w1]
        simp only [yb2]
        by_cases q : x = 0
        · rw [if_pos q, if_pos q]
        · rw [if_neg q, if_neg q, if_neg (by rw [ya_eq (by omega) (by omega)]; simp; omega)]
      obtain ⟨φ2, m2, o2, hc⟩ := rn_test (F := F) (nR := nR) (nN := nN) (gg := gg) hz hT hT2 S1 x1 (by omega) hbr zr zra zrg (by rw [o1]; exact hr) (by omega)
      rcases hc with ⟨q, S2⟩ | ⟨q, _, X2⟩ | ⟨q, hr1, _⟩
      · rw [if_pos q] at hst
        exact ⟨ψ1, hst, Or.inl ⟨_, φ2, k, m1.trans m2, S2, Nat.le_refl _, by omega, fun j hj => by rw [o2 j (by omega), o1 j]⟩⟩
      · rw [if_neg q] at hst
        exact ⟨_, hst, Or.inr ⟨_, φ2, k, 4, m1.trans m2, X2, Nat.le_refl _, by omega⟩⟩
      · omega
    · refine ⟨ψ1, ?_, Or.inr ⟨mv1, φ1, k, 3, m1, X1, Nat.le_refl _, by omega⟩⟩
      unfold mo_whiles_L23
      rw [if_neg (by simp [hS.2.2.2.2.2.1]), rn_eAt hS.2.1 hs, w1]
      rfl
  | succ r ih =>
    intro m i φ ψ k h2 h3 hS hr
    obtain ⟨m, rfl⟩ : ∃ z, m = z + 1 := ⟨m - 1, by omega⟩
    obtain ⟨d, rfl⟩ : ∃ z, d = z + 1 := ⟨d - 1, by omega⟩
    rcases rn_ex (F := F) (nR := nR) (nN := nN) (gg := gg) hF hz hT hT2 hM hmk hE (by omega) hS with ⟨x, φ1, ψ1, m1, w1, S1, x1, o1⟩ | ⟨mv1, φ1, ψ1, l1, m1, w1, X1⟩
    · obtain ⟨φ2, m2, o2, hc⟩ := rn_test (F := F) (nR := nR) (nN := nN) (gg := gg) hz hT hT2 S1 x1 (by omega) hbr zr zra zrg (by rw [o1]; exact hr) (by omega)
      rcases hc with ⟨q, S2⟩ | ⟨q, hr0, _⟩ | ⟨q, hr1, S2, r2⟩
      · refine ⟨ψ1, ?_, Or.inl ⟨_, φ2, k, m1.trans m2, S2, Nat.le_refl _, by omega, fun j hj => by rw [o2 j (by omega), o1 j]⟩⟩
        unfold mo_whiles_L23
        rw [if_neg (by simp [hS.2.2.2.2.2.1]), rn_eAt hS.2.1 hs, w1]
        simp only [yb2]
        rw [if_pos q]
      · omega
      · rw [Nat.add_sub_cancel] at r2
        obtain ⟨φ3, ψ3, mv3, e3, k28, hc3⟩ := rn_step (F := F) (nR := nR) (nN := nN) (gg := gg) hz hT hT2 S2 z2 (by omega)
        have f3 : rn_fm ψ0 ψ3 := by
          rcases hc3 with ⟨_, h⟩ | ⟨_, h⟩
          · exact h.2.1
          · exact h.2.1
        have hst : mo_whiles_L23 F (mg_R F (d + 1)) (m + 1 + 1) ψ (Int32.ofNat s) (Int32.ofNat most) (Int32.ofNat i) = qb2 (mg_R F (d + 1) 0 ψ3 (Int32.ofNat (s + 1)) (Int32.ofNat s')) fun _ φ3 => mo_whiles_L23 F (mg_R F (d + 1)) (m + 1) φ3 (Int32.ofNat s) (Int32.ofNat most) (Int32.ofNat (i + 1)) := by
          conv => lhs; unfold mo_whiles_L23
          rw [if_neg (by simp [hS.2.2.2.2.2.1]), rn_eAt hS.2.1 hs, w1]
          simp only [yb2]
          rw [if_neg q, if_pos (by rw [ya_eq (by omega) (by omega)]; omega), e3]
          simp only [yb1]
          rw [show mo_ofStatement F ψ3 (Int32.ofNat s) 5 = _ from rn_of (k := 5) f3 hs (by omega), t5, ya_add1, ya_add1]
          rfl
        have stopped : ∀ ψ2, ψ2 0 38 ≠ -1 → mo_whiles_L23 F (mg_R F (d + 1)) (m + 1) ψ2 (Int32.ofNat s) (Int32.ofNat most) (Int32.ofNat (i + 1)) = some ψ2 := by
          intro ψ2 hne
          unfold mo_whiles_L23
          rw [if_pos hne]
        have mvA := (m1.trans m2).trans mv3
        rcases hc3 with ⟨hk, S3⟩ | ⟨hk, X3⟩
        · obtain ⟨ψ4, e4, hR4⟩ := hB hs' (by omega) d F (by omega) (by omega) φ3 ψ3 (k + 1) S3
          rw [rn_mg e4] at hst
          simp only [yb2] at hst
          rcases hR4 with ⟨mv4, φ4, k4, m4, S4, l1, l2, l3⟩ | ⟨mv4, φ4, k4, v, m4, X4, l1, l2⟩
          · obtain ⟨φ5, m5, o5, S5⟩ := rn_jump (F := F) (nR := nR) (nN := nN) (gg := gg) hz hT hT2 S4 hysz zy zyg
            have o28 : ∀ j, j < br → φ5 28 j = φ 28 j := fun j hj => by rw [o5 j, l3 j (by omega), k28 j, o2 j (by omega), o1 j]
            obtain ⟨ψ6, e6, hR6⟩ := ih m (i + 1) φ5 ψ4 k4 (by omega) (by omega) S5 (by rw [o5, l3 br (by omega), k28 br]; exact r2)
            exact ⟨ψ6, hst.trans e6, hR6.pre ((mvA.trans m4).trans m5) (by omega) (by omega) o28⟩
          · exact ⟨ψ4, hst.trans (stopped ψ4 X4.ne), Or.inr ⟨_, φ4, k4, v, mvA.trans m4, X4, by omega, by omega⟩⟩
        · have e4 : mo_runs_L2 F (mg_R F d) F 0 ψ3 (Int32.ofNat s') (Int32.ofNat (s + 1)) = some ψ3 := rn_stop X3.ne (by omega)
          rw [rn_mg e4] at hst
          simp only [yb2] at hst
          exact ⟨ψ3, hst.trans (stopped ψ3 X3.ne), Or.inr ⟨_, φ3, k, 5, mvA, X3, Nat.le_refl _, by omega⟩⟩
    · refine ⟨ψ1, ?_, Or.inr ⟨mv1, φ1, k, 3, m1, X1, Nat.le_refl _, by omega⟩⟩
      unfold mo_whiles_L23
      rw [if_neg (by simp [hS.2.2.2.2.2.1]), rn_eAt hS.2.1 hs, w1]
      rfl
/-- what a statement does behind its STEP -/
theorem rn_does (hF : 4000 ≤ F) (hz : φ0 14 13 = Int32.ofNat sz) (hT : sz ≤ nT) (hT2 : sz ≤ 801) (hM : M ≤ 800) (hmk : φ0 26 1 = (1 <<< ((ψ0 2 0) &&& 31)) - 1) {un : Nat} (hun : φ0 26 7 = Int32.ofNat un) (hun' : ψ0 0 43 = Int32.ofNat un) (hu9 : un ≤ 9) {br s s' p p' d : Nat} (hbr : br ≤ 4) {B : Nat → Nat → Nat → Nat → Nat → Prop} (hst : yl_st (rn_Z φ0 ψ0) (rn_T ψ0) M B br s s' p p') (hs' : s' ≤ 24) (hp' : p' ≤ sz) (hB : ∀ s1 e1 p1 q1, br ≤ 3 → B (br + 1) s1 e1 p1 q1 → rn_B F nR nN nT gg φ0 ψ0 sz (br + 1) s1 e1 p1 q1) (hd : 3 * (4 - br) + 1 ≤ d) (h : rn_S φ0 ψ0 (p + 1) k 0 φ ψ) :
    ∃ ψ', mo_does F (mg_R F d) ψ (Int32.ofNat s) = some ψ' ∧ rn_R F nR nN nT gg φ0 ψ0 br p' (p' - p - 1) k φ ψ' := by
  obtain ⟨b1, t5, b3, b4, b5⟩ := hst
  have hs : s < 24 := by omega
  have t5' : rn_T ψ0 s 5 = Int32.ofNat s' := t5
  have of0 : ∀ ψ1, rn_fm ψ0 ψ1 → ∀ k, k < 6 → mo_ofStatement F ψ1 (Int32.ofNat s) (Int32.ofNat k) = some (rn_T ψ0 s k) := fun ψ1 f k hk => rn_of f hs hk
  have h38 := h.2.2.2.2.2.1
  rcases b5 with ⟨c1, c2, r, kk, c3, c4, c5, c6, c7, c8⟩ | ⟨c1, c2, r, c3, c4, c5⟩ | ⟨c1, c0, r, y, e, x, c2, c3, c4, c5, c6, c7, c8, c9, c10, c11⟩ | ⟨c1, y, kN, c2, c3, c4, c5, c6, c7, c8, c9, c10, c11, c12, c13, c14, c15⟩ | ⟨c1, r, y, kN, c2, c3, c4, c5, c6, c7, c8, c9, c10, c11, c12, c13, c14, c15, c16, c17, c18⟩ | ⟨c1, c0, r, kk, c2, c3, c4, c5, c6, c7, c8⟩
  · -- SET
    have hle := c3.le
    rcases rn_ex (F := F) (nR := nR) (nN := nN) (gg := gg) hF hz hT hT2 hM hmk c3 (by omega) h with ⟨v, φ1, ψ1, m1, w1, S1, v1, o1⟩ | ⟨mv1, φ1, ψ1, l1, m1, w1, X1⟩
    · obtain ⟨φ2, m2, S2, o2⟩ := rn_store (F := F) (nR := nR) (nN := nN) (gg := gg) hz hT hT2 S1 v1 (by omega) c4 c5 c7
      refine ⟨_, ?_, Or.inl ⟨_, φ2, k, m1.trans m2, by rw [c8]; exact S2, Nat.le_refl _, by omega, fun j hj => by rw [o2 j, o1 j]⟩⟩
      unfold mo_does
      rw [show mo_ofStatement F ψ (Int32.ofNat s) 0 = _ from of0 ψ h.2.1 0 (by omega), c1, rn_eAt h.2.1 hs, w1]
      simp only [yb1, yb2]
      rw [if_pos (by decide), if_pos (by decide), if_pos S1.2.2.2.2.2.1, if_neg (by simp), show mo_ofStatement F ψ1 (Int32.ofNat s) 1 = _ from of0 ψ1 S1.2.1 1 (by omega), c6]
      simp only [yb1]
      rw [ya_in (by omega) (by omega), ya_nn (by omega)]
      rfl
    · refine ⟨ψ1, ?_, Or.inr ⟨mv1, φ1, k, 3, m1, X1, Nat.le_refl _, by omega⟩⟩
      unfold mo_does
      rw [show mo_ofStatement F ψ (Int32.ofNat s) 0 = _ from of0 ψ h.2.1 0 (by omega), c1, rn_eAt h.2.1 hs, w1]
      simp only [yb1, yb2]
      rw [if_pos (by decide), if_pos (by decide), if_neg X1.ne]
  · -- MUST
    have hle := c3.le
    rcases rn_ex (F := F) (nR := nR) (nN := nN) (gg := gg) hF hz hT hT2 hM hmk c3 (by omega) h with ⟨v, φ1, ψ1, m1, w1, S1, v1, o1⟩ | ⟨mv1, φ1, ψ1, l1, m1, w1, X1⟩
    · obtain ⟨φ2, m2, o2, hc⟩ := rn_must (F := F) (nR := nR) (nN := nN) (gg := gg) hz hT hT2 S1 v1 (by omega) c4
      have hdo : mo_does F (mg_R F d) ψ (Int32.ofNat s) = if ¬ v = 0 then some (qm_u ψ1 0 38 (-1)) else some (qm_u ψ1 0 38 2) := by
        unfold mo_does
        rw [show mo_ofStatement F ψ (Int32.ofNat s) 0 = _ from of0 ψ h.2.1 0 (by omega), c1, rn_eAt h.2.1 hs, w1]
        simp only [yb1, yb2]
        rw [if_pos (by decide), if_pos (by decide), if_pos S1.2.2.2.2.2.1, if_pos (by decide), if_neg (by simp)]
      rcases hc with ⟨q, S2⟩ | ⟨q, X2⟩
      · rw [if_pos q] at hdo
        exact ⟨_, hdo, Or.inl ⟨_, φ2, k, m1.trans m2, by rw [c5]; exact S2, Nat.le_refl _, by omega, fun j hj => by rw [o2 j, o1 j]⟩⟩
      · rw [if_neg (by simp [q])] at hdo
        exact ⟨_, hdo, Or.inr ⟨_, φ2, k, 2, m1.trans m2, X2, Nat.le_refl _, by omega⟩⟩
    · refine ⟨ψ1, ?_, Or.inr ⟨mv1, φ1, k, 3, m1, X1, Nat.le_refl _, by omega⟩⟩
      unfold mo_does
      rw [show mo_ofStatement F ψ (Int32.ofNat s) 0 = _ from of0 ψ h.2.1 0 (by omega), c1, rn_eAt h.2.1 hs, w1]
      simp only [yb1, yb2]
      rw [if_pos (by decide), if_pos (by decide), if_neg X1.ne]
  · -- IF
    have hle := c2.le
    obtain ⟨d, rfl⟩ : ∃ z, d = z + 1 := ⟨d - 1, by omega⟩
    rcases rn_ex (F := F) (nR := nR) (nN := nN) (gg := gg) hF hz hT hT2 hM hmk c2 (by omega) h with ⟨v, φ1, ψ1, m1, w1, S1, v1, o1⟩ | ⟨mv1, φ1, ψ1, l1, m1, w1, X1⟩
    · obtain ⟨φ2, m2, o2, S2⟩ := rn_jiz (F := F) (nR := nR) (nN := nN) (gg := gg) hz hT hT2 S1 v1 (by omega) c3 c4
      have hdo : mo_does F (mg_R F (d + 1)) ψ (Int32.ofNat s) = if v = 0 then (qb2 (mg_R F (d + 1) 0 ψ1 (Int32.ofNat e) (Int32.ofNat s')) fun _ φ1 => some φ1) else (qb2 (mg_R F (d + 1) 0 ψ1 (Int32.ofNat (s + 1)) (Int32.ofNat e)) fun _ φ1 => some φ1) := by
        unfold mo_does mo_does_L106 mo_does_L125
        rw [show mo_ofStatement F ψ (Int32.ofNat s) 0 = _ from of0 ψ h.2.1 0 (by omega), c1, rn_eAt h.2.1 hs, w1]
        simp only [yb1, yb2]
        rw [if_pos (by decide), if_pos (by decide), if_pos S1.2.2.2.2.2.1, if_pos (by decide), if_pos (by decide), if_neg (by simp), show mo_ofStatement F ψ1 (Int32.ofNat s) 4 = _ from of0 ψ1 S1.2.1 4 (by omega), show mo_ofStatement F ψ1 (Int32.ofNat s) 5 = _ from of0 ψ1 S1.2.1 5 (by omega), c5, t5', ya_add1]
        simp only [yb1]
        by_cases q : v = 0
        · rw [if_pos q, if_pos q, if_pos q]
        · rw [if_neg q, if_neg q, if_neg q]
      have o28 : ∀ j, j < br → φ2 28 j = φ 28 j := fun j hj => by rw [o2 j, o1 j]
      have mvA := m1.trans m2
      by_cases q : v = 0
      · rw [if_pos q] at hdo S2
        rcases c11 with ⟨f1, f2, f3⟩ | ⟨f1, f2, f3, f4, f5⟩
        · -- without else
          have e2 : mo_runs_L2 F (mg_R F d) F 0 ψ1 (Int32.ofNat s') (Int32.ofNat e) = some ψ1 := by
            obtain ⟨F', hF'⟩ : ∃ z, F = z + 1 := ⟨F - 1, by omega⟩
            rw [hF']
            unfold mo_runs_L2
            rw [if_pos rfl, if_pos (by rw [ya_le (by omega) (by omega)]; omega)]
          rw [rn_mg e2] at hdo
          rw [f2, ← f3] at S2
          exact ⟨ψ1, hdo, Or.inl ⟨_, φ2, k, mvA, S2, Nat.le_refl _, by omega, o28⟩⟩
        · obtain ⟨ψ2, e2, hR⟩ := hB _ _ _ _ c0 f5 (by omega) (by omega) d F (by omega) (by omega) φ2 ψ1 k (by rw [← f3]; exact S2)
          rw [rn_mg e2] at hdo
          exact ⟨ψ2, hdo, (hR.br (by omega)).pre mvA (Nat.le_refl _) (by omega) o28⟩
      · rw [if_neg q] at hdo S2
        obtain ⟨ψ2, e2, hR⟩ := hB _ _ _ _ c0 c10 (by omega) (by omega) d F (by omega) (by omega) φ2 ψ1 k S2
        rw [rn_mg e2] at hdo
        rcases hR with ⟨mv3, φ3, k3, m3, S3, l1, l2, l3⟩ | ⟨mv3, φ3, k3, v3, m3, X3, l1, l2⟩
        · rcases c11 with ⟨f1, f2, f3⟩ | ⟨f1, f2, f3, f4, f5⟩
          · rw [← f3] at S3
            exact ⟨ψ2, hdo, Or.inl ⟨_, φ3, k3, mvA.trans m3, S3, l1, by omega, fun j hj => by rw [l3 j (by omega)]; exact o28 j hj⟩⟩
          · obtain ⟨φ4, m4, o4, S4⟩ := rn_jump (F := F) (nR := nR) (nN := nN) (gg := gg) hz hT hT2 S3 (by omega) f1 f2
            exact ⟨ψ2, hdo, Or.inl ⟨_, φ4, k3, (mvA.trans m3).trans m4, S4, l1, by omega, fun j hj => by rw [o4 j, l3 j (by omega)]; exact o28 j hj⟩⟩
        · exact ⟨ψ2, hdo, Or.inr ⟨_, φ3, k3, v3, mvA.trans m3, X3, l1, by omega⟩⟩
    · refine ⟨ψ1, ?_, Or.inr ⟨mv1, φ1, k, 3, m1, X1, Nat.le_refl _, by omega⟩⟩
      unfold mo_does
      rw [show mo_ofStatement F ψ (Int32.ofNat s) 0 = _ from of0 ψ h.2.1 0 (by omega), c1, rn_eAt h.2.1 hs, w1]
      simp only [yb1, yb2]
      rw [if_pos (by decide), if_pos (by decide), if_neg X1.ne]
  · -- LOOP
    obtain ⟨d, rfl⟩ : ∃ z, d = z + 1 := ⟨d - 1, by omega⟩
    obtain ⟨φ1, m1, S1, r1, o1⟩ := rn_begin (F := F) (nR := nR) (nN := nN) (gg := gg) (w := kN) hz hT hT2 h (by omega) c5 c7 c8 hun hu9 (Or.inl ⟨c6, rfl⟩)
    obtain ⟨ψ2, e2, hR⟩ := rn_loop (nR := nR) (nN := nN) (gg := gg) (d := d) hF hz hT hT2 hs hs' b3 c5 c3 c4 t5' c9 c10 (by omega) c12 c13 c14 (hB _ _ _ _ c5 c11) (by omega) kN F 0 φ1 ψ k c2 (by omega) (by omega) S1 r1
    refine ⟨ψ2, ?_, ?_⟩
    · have e3 : mg_R F (d + 1) 3 ψ (Int32.ofNat s) 0 = some (0, ψ2) := by
        show (qb1 (mo_loops F (mg_R F d) ψ (Int32.ofNat s)) fun q => some (0, q)) = _
        unfold mo_loops
        rw [show mo_loops_L2 F (mg_R F d) F ψ (Int32.ofNat s) 0 = _ from e2]
        rfl
      unfold mo_does
      rw [show mo_ofStatement F ψ (Int32.ofNat s) 0 = _ from of0 ψ h.2.1 0 (by omega), c1]
      simp only [yb1]
      rw [if_neg (by simp), e3]
      rfl
    · rw [c15]
      exact hR.pre m1 (Nat.le_refl _) (by omega) (fun j hj => o1 j (by omega))
  · -- WHILE
    obtain ⟨d, rfl⟩ : ∃ z, d = z + 1 := ⟨d - 1, by omega⟩
    have hle := c9.le
    obtain ⟨φ1, m1, S1, r1, o1⟩ := rn_begin (F := F) (nR := nR) (nN := nN) (gg := gg) (w := if un = 0 then kN else un) hz hT hT2 h (by omega) c5 c7 c8 hun hu9 (Or.inr ⟨c6, rfl⟩)
    have hmost : (if un = 0 then kN else un) ≤ 9 := by split <;> omega
    obtain ⟨ψ2, e2, hR⟩ := rn_while (nR := nR) (nN := nN) (gg := gg) (d := d) (p := p) hF hz hT hT2 hM hmk hs hs' b3 c5 hmost t5' c9 c10 c11 (by rw [← c18]; exact c12) c13 c14 (by omega) c16 c17 (hB _ _ _ _ c5 c15) (by omega) (if un = 0 then kN else un) (F - 1) 0 φ1 ψ k (by omega) (by omega) S1 r1
    rw [show F - 1 + 1 = F by omega] at e2
    refine ⟨ψ2, ?_, ?_⟩
    · have e3 : mg_R F (d + 1) 4 ψ (Int32.ofNat s) 0 = some (0, ψ2) := by
        show (qb1 (mo_whiles F (mg_R F d) ψ (Int32.ofNat s)) fun q => some (0, q)) = _
        unfold mo_whiles
        have e43 : ψ 0 43 = Int32.ofNat un := by rw [h.2.1 0 43 (by omega) (by omega)]; exact hun'
        rw [e43, show mo_ofStatement F ψ (Int32.ofNat s) 1 = _ from of0 ψ h.2.1 1 (by omega), c4]
        simp only [yb1]
        by_cases q : un = 0
        · rw [if_pos q] at e2
          rw [if_pos (by rw [q]; decide), show mo_whiles_L23 F (mg_R F d) F ψ (Int32.ofNat s) (Int32.ofNat kN) 0 = _ from e2]
          rfl
        · rw [if_neg q] at e2
          rw [if_neg (by rw [show (0 : Int32) = Int32.ofNat 0 from rfl, ya_le (by omega) (by omega)]; omega), show mo_whiles_L23 F (mg_R F d) F ψ (Int32.ofNat s) (Int32.ofNat un) 0 = _ from e2]
          rfl
      unfold mo_does
      rw [show mo_ofStatement F ψ (Int32.ofNat s) 0 = _ from of0 ψ h.2.1 0 (by omega), c1]
      simp only [yb1]
      rw [if_pos (by decide), if_neg (by simp), e3]
      rfl
    · rw [c18]
      exact hR.pre m1 (Nat.le_refl _) (by omega) (fun j hj => o1 j (by omega))
  · -- LET
    have hle := c2.le
    obtain ⟨d, rfl⟩ : ∃ z, d = z + 2 := ⟨d - 2, by omega⟩
    rcases rn_ex (F := F) (nR := nR) (nN := nN) (gg := gg) hF hz hT hT2 hM hmk c2 (by omega) h with ⟨v, φ1, ψ1, m1, w1, S1, v1, o1⟩ | ⟨mv1, φ1, ψ1, l1, m1, w1, X1⟩
    · obtain ⟨φ2, m2, S2, o2⟩ := rn_store (F := F) (nR := nR) (nN := nN) (gg := gg) hz hT hT2 S1 v1 (by omega) c3 c4 c6
      obtain ⟨ψ3, e3, hR⟩ := hB _ _ _ _ c0 c8 (by omega) (by omega) d F (by omega) (by omega) φ2 _ k S2
      refine ⟨ψ3, ?_, (hR.br (by omega)).pre (m1.trans m2) (Nat.le_refl _) (by omega) (fun j hj => by rw [o2 j, o1 j])⟩
      have e4 : mg_R F (d + 2) 2 ψ1 (Int32.ofNat s) v = some (0, ψ3) := by
        show (qb1 (mo_lets F (mg_R F (d + 1)) ψ1 (Int32.ofNat s) v) fun q => some (0, q)) = _
        unfold mo_lets
        rw [show mo_ofStatement F ψ1 (Int32.ofNat s) 1 = _ from of0 ψ1 S1.2.1 1 (by omega), c5]
        simp only [yb1]
        rw [ya_in (by omega) (by omega), ya_nn (by omega), show mo_ofStatement F (qm_u ψ1 17 kk v) (Int32.ofNat s) 5 = _ from of0 _ S2.2.1 5 (by omega), t5', ya_add1]
        simp only [yb1, yg1]
        rw [rn_mg e3]
        rfl
      unfold mo_does
      rw [show mo_ofStatement F ψ (Int32.ofNat s) 0 = _ from of0 ψ h.2.1 0 (by omega), c1, rn_eAt h.2.1 hs, w1]
      simp only [yb1, yb2]
      rw [if_pos (by decide), if_pos (by decide), if_pos S1.2.2.2.2.2.1, if_pos (by decide), if_pos (by decide), if_pos (by decide), e4]
      rfl
    · refine ⟨ψ1, ?_, Or.inr ⟨mv1, φ1, k, 3, m1, X1, Nat.le_refl _, by omega⟩⟩
      unfold mo_does
      rw [show mo_ofStatement F ψ (Int32.ofNat s) 0 = _ from of0 ψ h.2.1 0 (by omega), c1, rn_eAt h.2.1 hs, w1]
      simp only [yb1, yb2]
      rw [if_pos (by decide), if_pos (by decide), if_neg X1.ne]
/-- blocks -/
theorem rn_blk (hF : 4000 ≤ F) (hz : φ0 14 13 = Int32.ofNat sz) (hT : sz ≤ nT) (hT2 : sz ≤ 801) (hM : M ≤ 800) (hmk : φ0 26 1 = (1 <<< ((ψ0 2 0) &&& 31)) - 1) {un : Nat} (hun : φ0 26 7 = Int32.ofNat un) (hun' : ψ0 0 43 = Int32.ofNat un) (hu9 : un ≤ 9) : ∀ (n br s e p q : Nat), br ≤ 4 → yl_L (rn_Z φ0 ψ0) (rn_T ψ0) M n br s e p q → rn_B F nR nN nT gg φ0 ψ0 sz br s e p q := by
  intro n
  induction n with
  | zero =>
    intro br s e p q hbr h he hq d m hd hm φ ψ k hS
    obtain ⟨h1, h2⟩ := h
    subst h1 h2
    refine ⟨ψ, ?_, Or.inl ⟨0, φ, k, rx_MV.refl φ, hS, Nat.le_refl _, by omega, fun _ _ => rfl⟩⟩
    obtain ⟨m, rfl⟩ : ∃ z, m = z + 1 := ⟨m - 1, by omega⟩
    unfold mo_runs_L2
    rw [if_pos rfl, if_pos (by rw [ya_le (by omega) (by omega)]; omega)]
  | succ n ih =>
    intro br s e p q hbr h he hq d m hd hm φ ψ k hS
    rcases h with ⟨h1, h2⟩ | ⟨s', p', l1, l2, hst, hrest⟩
    · subst h1 h2
      refine ⟨ψ, ?_, Or.inl ⟨0, φ, k, rx_MV.refl φ, hS, Nat.le_refl _, by omega, fun _ _ => rfl⟩⟩
      obtain ⟨m, rfl⟩ : ∃ z, m = z + 1 := ⟨m - 1, by omega⟩
      unfold mo_runs_L2
      rw [if_pos rfl, if_pos (by rw [ya_le (by omega) (by omega)]; omega)]
    · have b3 := hst.2.2.1
      have b4 := hst.2.2.2.1
      obtain ⟨m, rfl⟩ : ∃ z, m = z + 2 := ⟨m - 2, by omega⟩
      obtain ⟨d, rfl⟩ : ∃ z, d = z + 1 := ⟨d - 1, by omega⟩
      obtain ⟨φ1, ψ1, mv1, e1, k28, hc⟩ := rn_step (F := F) (nR := nR) (nN := nN) (gg := gg) hz hT hT2 hS hst.1 (by omega)
      have tag1 : ∀ ψ2, rn_fm ψ0 ψ2 → mo_runs_L2 F (mg_R F (d + 1)) (m + 1) 1 ψ2 (Int32.ofNat e) (Int32.ofNat s) = mo_runs_L2 F (mg_R F (d + 1)) m 0 ψ2 (Int32.ofNat e) (Int32.ofNat s') := by
        intro ψ2 f2
        conv => lhs; unfold mo_runs_L2
        rw [if_neg (by omega), show mo_ofStatement F ψ2 (Int32.ofNat s) 5 = _ from rn_of (k := 5) f2 (by omega) (by omega), hst.2.1]
        rfl
      have hst0 : mo_runs_L2 F (mg_R F (d + 1)) (m + 2) 0 ψ (Int32.ofNat e) (Int32.ofNat s) = if ¬ (ψ1 0 38) = (-1) then mo_runs_L2 F (mg_R F (d + 1)) (m + 1) 1 ψ1 (Int32.ofNat e) (Int32.ofNat s) else (qb2 (mg_R F (d + 1) 1 ψ1 (Int32.ofNat s) 0) fun _ φ2 => mo_runs_L2 F (mg_R F (d + 1)) (m + 1) 1 φ2 (Int32.ofNat e) (Int32.ofNat s)) := by
        conv => lhs; unfold mo_runs_L2
        rw [if_pos rfl, if_neg (by rw [ya_le (by omega) (by omega)]; omega), if_neg (by simp [hS.2.2.2.2.2.1]), e1]
        rfl
      rcases hc with ⟨hk, S1⟩ | ⟨hk, X1⟩
      · rw [if_neg (by simp [S1.2.2.2.2.2.1])] at hst0
        obtain ⟨ψ2, e2, hR2⟩ := rn_does (nR := nR) (nN := nN) (gg := gg) (d := d) (k := k + 1) hF hz hT hT2 hM hmk hun hun' hu9 hbr hst (by omega) (by omega) (fun s1 e1 p1 q1 hb3 hB => ih (br + 1) s1 e1 p1 q1 (by omega) hB) (by omega) S1
        have e3 : mg_R F (d + 1) 1 ψ1 (Int32.ofNat s) 0 = some (0, ψ2) := by
          show (qb1 (mo_does F (mg_R F d) ψ1 (Int32.ofNat s)) fun q => some (0, q)) = _
          rw [e2]
          rfl
        rw [e3] at hst0
        simp only [yb2] at hst0
        rcases hR2 with ⟨mv2, φ2, k2, m2, S2, l3, l4, l5⟩ | ⟨mv2, φ2, k2, v, m2, X2, l3, l4⟩
        · rw [tag1 ψ2 S2.2.1] at hst0
          obtain ⟨ψ3, e4, hR3⟩ := ih br s' e p' q hbr hrest he hq (d + 1) m (by omega) (by omega) φ2 ψ2 k2 S2
          exact ⟨ψ3, hst0.trans e4, hR3.pre (mv1.trans m2) (by omega) (by omega) (fun j hj => by rw [l5 j hj, k28 j])⟩
        · rw [tag1 ψ2 X2.2.1, rn_stop X2.ne (by omega)] at hst0
          exact ⟨ψ2, hst0, Or.inr ⟨_, φ2, k2, v, mv1.trans m2, X2, by omega, by omega⟩⟩
      · rw [if_pos X1.ne, tag1 ψ1 X1.2.1, rn_stop X1.ne (by omega)] at hst0
        exact ⟨ψ1, hst0, Or.inr ⟨1, φ1, k, 5, mv1, X1, Nat.le_refl _, by omega⟩⟩
end R3
