/-- SketchFillerModel.guesses()I -/
def mo_guesses (F : Nat) (φ : qm_F) : Option Int32 :=
  some (1 <<< ((φ 2 6) &&& 31))
set_option maxRecDepth 100000 in
theorem mo_guesses_n (F d : Nat) (φ : qm_F) (r : Int32) (hd : 0 ≤ d) (hs : mo_guesses F φ = some r) : qm_Rn d 78 0 [.ref 0] [] (mw φ) (some (.int r), mw φ) := by
  have hC := qC_78
  unfold mo_guesses at hs
  refine qr_s hC (n := 4) (pc' := 7) (ls' := [.ref 0]) (st' := [.int 6, .ref 2, .int 1]) (h' := mw φ) rfl ?_
  refine qr_ia (v := φ 2 6) hC rfl rfl (by decide) rfl ?_
  refine qr_s hC (n := 1) (pc' := 9) (ls' := [.ref 0]) (st' := [.int (1 <<< ((φ 2 6) &&& 31))]) (h' := mw φ) rfl ?_
  have hs := Option.some.inj hs
  subst hs
  exact qr_r hC rfl rfl
/-- SketchFillerModel.partOf(IIII)I -/
def mo_partOf_L9 (F : Nat) : Nat → qm_F → Int32 → Int32 → Int32 → Int32 → Int32 → Int32 → Option Int32
  | 0, _, _, _, _, _, _, _ => none
  | n + 1, φ, x1, x2, x3, x4, x5, x6 =>
    if x3 ≤ x6 then
      qg (qm_in (x2 + x4) 30) <|
      some ((x1 >>> (x5 &&& 31)) &&& ((1 <<< ((φ 4 ((x2 + x4).toNatClampNeg)) &&& 31)) - 1))
    else
      qg (qm_in (x2 + x6) 30) <|
      mo_partOf_L9 F n φ x1 x2 x3 x4 (x5 + (φ 4 ((x2 + x6).toNatClampNeg))) (x6 + 1)
def mo_partOf (F : Nat) (φ : qm_F) (x1 : Int32) (x2 : Int32) (x3 : Int32) (x4 : Int32) : Option Int32 :=
  mo_partOf_L9 F F φ x1 x2 x3 x4 0 (x4 + 1)
set_option maxRecDepth 100000 in
theorem mo_partOf_L9_n (F d : Nat) (hd : 0 ≤ d) : ∀ (n : Nat) (φ : qm_F) (x1 : Int32) (x2 : Int32) (x3 : Int32) (x4 : Int32) (x5 : Int32) (x6 : Int32) (r : Int32), mo_partOf_L9 F n φ x1 x2 x3 x4 x5 x6 = some r → qm_Rn d 83 9 [.ref 0, .int x1, .int x2, .int x3, .int x4, .int x5, .int x6] [] (mw φ) (some (.int r), mw φ) := by
  have hC := qC_83
  intro n
  induction n with
  | zero => intro φ x1 x2 x3 x4 x5 x6 r hs; simp [mo_partOf_L9] at hs
  | succ n ih =>
    intro φ x1 x2 x3 x4 x5 x6 r hs
    rw [mo_partOf_L9] at hs
    refine qr_s hC (n := 2) (pc' := 12) (ls' := [.ref 0, .int x1, .int x2, .int x3, .int x4, .int x5, .int x6]) (st' := [.int x3, .int x6]) (h' := mw φ) rfl ?_
    refine qr_ge2 (tgt := 35) hC rfl (by decide) rfl (fun hc => ?_) (fun hc => ?_)
    · rw [if_pos hc] at hs
      refine qr_s hC (n := 9) (pc' := 48) (ls' := [.ref 0, .int x1, .int x2, .int x3, .int x4, .int x5, .int x6]) (st' := [.int (x2 + x4), .ref 4, .int 1, .int (x1 >>> (x5 &&& 31))]) (h' := mw φ) rfl ?_
      obtain ⟨hq, hs⟩ := qg_s hs
      refine qr_ia (v := φ 4 ((x2 + x4).toNatClampNeg)) hC rfl rfl hq rfl ?_
      refine qr_s hC (n := 4) (pc' := 53) (ls' := [.ref 0, .int x1, .int x2, .int x3, .int x4, .int x5, .int x6]) (st' := [.int ((x1 >>> (x5 &&& 31)) &&& ((1 <<< ((φ 4 ((x2 + x4).toNatClampNeg)) &&& 31)) - 1))]) (h' := mw φ) rfl ?_
      have hs := Option.some.inj hs
      subst hs
      exact qr_r hC rfl rfl
    · rw [if_neg hc] at hs
      refine qr_s hC (n := 6) (pc' := 25) (ls' := [.ref 0, .int x1, .int x2, .int x3, .int x4, .int x5, .int x6]) (st' := [.int (x2 + x6), .ref 4, .int x5]) (h' := mw φ) rfl ?_
      obtain ⟨hq, hs⟩ := qg_s hs
      refine qr_ia (v := φ 4 ((x2 + x6).toNatClampNeg)) hC rfl rfl hq rfl ?_
      refine qr_s hC (n := 4) (pc' := 9) (ls' := [.ref 0, .int x1, .int x2, .int x3, .int x4, .int (x5 + (φ 4 ((x2 + x6).toNatClampNeg))), .int (x6 + 1)]) (st' := []) (h' := mw φ) rfl ?_
      exact ih φ x1 x2 x3 x4 (x5 + (φ 4 ((x2 + x6).toNatClampNeg))) (x6 + 1) _ hs
set_option maxRecDepth 100000 in
theorem mo_partOf_n (F d : Nat) (φ : qm_F) (x1 : Int32) (x2 : Int32) (x3 : Int32) (x4 : Int32) (r : Int32) (hd : 0 ≤ d) (hs : mo_partOf F φ x1 x2 x3 x4 = some r) : qm_Rn d 83 0 [.ref 0, .int x1, .int x2, .int x3, .int x4, .retAddr 0, .retAddr 0] [] (mw φ) (some (.int r), mw φ) := by
  have hC := qC_83
  unfold mo_partOf at hs
  refine qr_s hC (n := 6) (pc' := 9) (ls' := [.ref 0, .int x1, .int x2, .int x3, .int x4, .int 0, .int (x4 + 1)]) (st' := []) (h' := mw φ) rfl ?_
  exact mo_partOf_L9_n F d (by omega) F φ x1 x2 x3 x4 0 (x4 + 1) _ hs
/-- SketchFillerModel.holeIn(II)I -/
def mo_holeIn (F : Nat) (φ : qm_F) (x1 : Int32) (x2 : Int32) : Option Int32 :=
  qb1 (mo_partOf F φ x1 3 (φ 2 2) x2) fun y1 =>
  some y1
set_option maxRecDepth 100000 in
theorem mo_holeIn_n (F d : Nat) (φ : qm_F) (x1 : Int32) (x2 : Int32) (r : Int32) (hd : 1 ≤ d) (hs : mo_holeIn F φ x1 x2 = some r) : qm_Rn d 84 0 [.ref 0, .int x1, .int x2] [] (mw φ) (some (.int r), mw φ) := by
  obtain ⟨d, rfl⟩ : ∃ e, d = e + 1 := ⟨d - 1, by omega⟩
  have hC := qC_84
  unfold mo_holeIn at hs
  refine qr_s hC (n := 6) (pc' := 8) (ls' := [.ref 0, .int x1, .int x2]) (st' := [.int 2, .ref 2, .int 3, .int x1, .ref 0]) (h' := mw φ) rfl ?_
  refine qr_ia (v := φ 2 2) hC rfl rfl (by decide) rfl ?_
  refine qr_s hC (n := 1) (pc' := 10) (ls' := [.ref 0, .int x1, .int x2]) (st' := [.int x2, .int (φ 2 2), .int 3, .int x1, .ref 0]) (h' := mw φ) rfl ?_
  obtain ⟨y1, hy, hs⟩ := qb1_s hs
  refine qr_c (j := 83) (as := [.ref 0, .int x1, .int 3, .int (φ 2 2), .int x2]) (rest := []) (v := some (.int y1)) (h1 := mw φ) hC rfl rfl qC_83 rfl rfl (mo_partOf_n F d φ x1 3 (φ 2 2) x2 _ (by omega) hy) ?_
  show qm_Rn (d + 1) 84 13 [.ref 0, .int x1, .int x2] [.int y1] (mw φ) _
  have hs := Option.some.inj hs
  subst hs
  exact qr_r hC rfl rfl
/-- SketchFillerModel.costOf(I)I -/
def mo_costOf_L4 (F : Nat) : Nat → qm_F → Int32 → Int32 → Int32 → Option Int32
  | 0, _, _, _, _ => none
  | n + 1, φ, x1, x2, x3 =>
    if (φ 2 2) ≤ x3 then
      some x2
    else
      qg (qm_in (3 + x3) 30) <|
      qb1 (mo_holeIn F φ x1 x3) fun y1 =>
      mo_costOf_L4 F n φ x1 (x2 + ((φ 5 ((3 + x3).toNatClampNeg)) * y1)) (x3 + 1)
def mo_costOf (F : Nat) (φ : qm_F) (x1 : Int32) : Option Int32 :=
  mo_costOf_L4 F F φ x1 0 0
set_option maxRecDepth 100000 in
theorem mo_costOf_L4_n (F d : Nat) (hd : 2 ≤ d) : ∀ (n : Nat) (φ : qm_F) (x1 : Int32) (x2 : Int32) (x3 : Int32) (r : Int32), mo_costOf_L4 F n φ x1 x2 x3 = some r → qm_Rn d 85 4 [.ref 0, .int x1, .int x2, .int x3] [] (mw φ) (some (.int r), mw φ) := by
  obtain ⟨d, rfl⟩ : ∃ e, d = e + 1 := ⟨d - 1, by omega⟩
  have hC := qC_85
  intro n
  induction n with
  | zero => intro φ x1 x2 x3 r hs; simp [mo_costOf_L4] at hs
  | succ n ih =>
    intro φ x1 x2 x3 r hs
    rw [mo_costOf_L4] at hs
    refine qr_s hC (n := 4) (pc' := 10) (ls' := [.ref 0, .int x1, .int x2, .int x3]) (st' := [.int 2, .ref 2, .int x3]) (h' := mw φ) rfl ?_
    refine qr_ia (v := φ 2 2) hC rfl rfl (by decide) rfl ?_
    refine qr_ge2 (tgt := 38) hC rfl (by decide) rfl (fun hc => ?_) (fun hc => ?_)
    · rw [if_pos hc] at hs
      refine qr_s hC (n := 1) (pc' := 39) (ls' := [.ref 0, .int x1, .int x2, .int x3]) (st' := [.int x2]) (h' := mw φ) rfl ?_
      have hs := Option.some.inj hs
      subst hs
      exact qr_r hC rfl rfl
    · rw [if_neg hc] at hs
      refine qr_s hC (n := 6) (pc' := 22) (ls' := [.ref 0, .int x1, .int x2, .int x3]) (st' := [.int (3 + x3), .ref 5, .int x2]) (h' := mw φ) rfl ?_
      obtain ⟨hq, hs⟩ := qg_s hs
      refine qr_ia (v := φ 5 ((3 + x3).toNatClampNeg)) hC rfl rfl hq rfl ?_
      refine qr_s hC (n := 3) (pc' := 26) (ls' := [.ref 0, .int x1, .int x2, .int x3]) (st' := [.int x3, .int x1, .ref 0, .int (φ 5 ((3 + x3).toNatClampNeg)), .int x2]) (h' := mw φ) rfl ?_
      obtain ⟨y1, hy, hs⟩ := qb1_s hs
      refine qr_c (j := 84) (as := [.ref 0, .int x1, .int x3]) (rest := [.int (φ 5 ((3 + x3).toNatClampNeg)), .int x2]) (v := some (.int y1)) (h1 := mw φ) hC rfl rfl qC_84 rfl rfl (mo_holeIn_n F d φ x1 x3 _ (by omega) hy) ?_
      show qm_Rn (d + 1) 85 29 [.ref 0, .int x1, .int x2, .int x3] [.int y1, .int (φ 5 ((3 + x3).toNatClampNeg)), .int x2] (mw φ) _
      refine qr_s hC (n := 5) (pc' := 4) (ls' := [.ref 0, .int x1, .int (x2 + ((φ 5 ((3 + x3).toNatClampNeg)) * y1)), .int (x3 + 1)]) (st' := []) (h' := mw φ) rfl ?_
      exact ih φ x1 (x2 + ((φ 5 ((3 + x3).toNatClampNeg)) * y1)) (x3 + 1) _ hs
set_option maxRecDepth 100000 in
theorem mo_costOf_n (F d : Nat) (φ : qm_F) (x1 : Int32) (r : Int32) (hd : 2 ≤ d) (hs : mo_costOf F φ x1 = some r) : qm_Rn d 85 0 [.ref 0, .int x1, .retAddr 0, .retAddr 0] [] (mw φ) (some (.int r), mw φ) := by
  obtain ⟨d, rfl⟩ : ∃ e, d = e + 1 := ⟨d - 1, by omega⟩
  have hC := qC_85
  unfold mo_costOf at hs
  refine qr_s hC (n := 4) (pc' := 4) (ls' := [.ref 0, .int x1, .int 0, .int 0]) (st' := []) (h' := mw φ) rfl ?_
  exact mo_costOf_L4_n F (d + 1) (by omega) F φ x1 0 0 _ hs
/-- SketchFillerModel.laysRanks()V -/
def mo_laysRanks_L2 (F : Nat) : Nat → Nat → qm_F → Int32 → Int32 → Option qm_F
  | 0, _, _, _, _ => none
  | n + 1, t, φ, x1, x2 =>
    if t = 0 then
      qb1 (mo_guesses F φ) fun y1 =>
      if y1 ≤ x1 then
        some φ
      else
        mo_laysRanks_L2 F n 1 φ x1 x1
    else
    if t = 1 then
      if x2 ≤ 0 then
        mo_laysRanks_L2 F n 2 φ x1 x2
      else
        qg (qm_in (x2 - 1) 128) <|
        qb1 (mo_costOf F φ (φ 16 ((x2 - 1).toNatClampNeg))) fun y1 =>
        qb1 (mo_costOf F φ x1) fun y2 =>
        if y1 ≤ y2 then
          mo_laysRanks_L2 F n 2 φ x1 x2
        else
          qg (qm_in (x2 - 1) 128) <|
          qg (qm_in x2 128) <|
          mo_laysRanks_L2 F n 1 (qm_u φ 16 x2.toNatClampNeg (φ 16 ((x2 - 1).toNatClampNeg))) x1 (x2 + (-1))
    else
    qg (qm_in x2 128) <|
    mo_laysRanks_L2 F n 0 (qm_u φ 16 x2.toNatClampNeg x1) (x1 + 1) 0
def mo_laysRanks (F : Nat) (φ : qm_F) : Option qm_F :=
  mo_laysRanks_L2 F F 0 φ 0 0
set_option maxRecDepth 100000 in
theorem mo_laysRanks_L2_n0 (F d : Nat) (hd : 3 ≤ d) : ∀ (n t : Nat) (φ : qm_F) (x1 : Int32) (x2 : Int32) (r : qm_F), mo_laysRanks_L2 F n t φ x1 x2 = some r → (t = 0 → qm_Rn d 86 2 [.ref 0, .int x1, .retAddr 0] [] (mw φ) (none, mw r)) ∧ (t = 1 → qm_Rn d 86 12 [.ref 0, .int x1, .int x2] [] (mw φ) (none, mw r)) ∧ (t ≠ 0 ∧ t ≠ 1 → qm_Rn d 86 56 [.ref 0, .int x1, .int x2] [] (mw φ) (none, mw r)) := by
  obtain ⟨d, rfl⟩ : ∃ e, d = e + 1 := ⟨d - 1, by omega⟩
  have hC := qC_86
  intro n
  induction n with
  | zero => intro t φ x1 x2 r hs; simp [mo_laysRanks_L2] at hs
  | succ n ihh =>
    intro t φ x1 x2 r hs
    rw [mo_laysRanks_L2] at hs
    have ih0 : ∀ (φ : qm_F) (x1 : Int32) (x2 : Int32) (r : qm_F), mo_laysRanks_L2 F n 0 φ x1 x2 = some r → _ := fun φ x1 x2 r q => (ihh 0 φ x1 x2 r q).1 rfl
    have ih1 : ∀ (φ : qm_F) (x1 : Int32) (x2 : Int32) (r : qm_F), mo_laysRanks_L2 F n 1 φ x1 x2 = some r → _ := fun φ x1 x2 r q => (ihh 1 φ x1 x2 r q).2.1 rfl
    have ih2 : ∀ (φ : qm_F) (x1 : Int32) (x2 : Int32) (r : qm_F), mo_laysRanks_L2 F n 2 φ x1 x2 = some r → _ := fun φ x1 x2 r q => (ihh 2 φ x1 x2 r q).2.2 ⟨by decide, by decide⟩
    refine ⟨fun ht => ?_, fun ht => ?_, fun ht => ?_⟩
    · subst ht
      rw [if_pos rfl] at hs
      refine qr_s hC (n := 2) (pc' := 4) (ls' := [.ref 0, .int x1, .retAddr 0]) (st' := [.ref 0, .int x1]) (h' := mw φ) rfl ?_
      obtain ⟨y1, hy, hs⟩ := qb1_s hs
      refine qr_c (j := 78) (as := [.ref 0]) (rest := [.int x1]) (v := some (.int y1)) (h1 := mw φ) hC rfl rfl qC_78 rfl rfl (mo_guesses_n F d φ _ (by omega) hy) ?_
      show qm_Rn (d + 1) 86 7 [.ref 0, .int x1, .retAddr 0] [.int y1, .int x1] (mw φ) _
      refine qr_ge2 (tgt := 69) hC rfl (by decide) rfl (fun hc => ?_) (fun hc => ?_)
      · rw [if_pos hc] at hs
        have hs := Option.some.inj hs
        subst hs
        exact qr_r hC rfl rfl
      · rw [if_neg hc] at hs
        refine qr_s hC (n := 2) (pc' := 12) (ls' := [.ref 0, .int x1, .int x1]) (st' := []) (h' := mw φ) rfl ?_
        exact (ih1 φ x1 x1 _ hs)
    · subst ht
      rw [if_neg (by decide)] at hs
      rw [if_pos rfl] at hs
      refine qr_s hC (n := 1) (pc' := 13) (ls' := [.ref 0, .int x1, .int x2]) (st' := [.int x2]) (h' := mw φ) rfl ?_
      refine qr_le1 (tgt := 56) hC rfl (by decide) rfl (fun hc => ?_) (fun hc => ?_)
      · rw [if_pos hc] at hs
        exact (ih2 φ x1 x2 _ hs)
      · rw [if_neg hc] at hs
        refine qr_s hC (n := 6) (pc' := 24) (ls' := [.ref 0, .int x1, .int x2]) (st' := [.int (x2 - 1), .ref 16, .ref 0]) (h' := mw φ) rfl ?_
        obtain ⟨hq, hs⟩ := qg_s hs
        refine qr_ia (v := φ 16 ((x2 - 1).toNatClampNeg)) hC rfl rfl hq rfl ?_
        obtain ⟨y1, hy, hs⟩ := qb1_s hs
        refine qr_c (j := 85) (as := [.ref 0, .int (φ 16 ((x2 - 1).toNatClampNeg))]) (rest := []) (v := some (.int y1)) (h1 := mw φ) hC rfl rfl qC_85 rfl rfl (mo_costOf_n F d φ (φ 16 ((x2 - 1).toNatClampNeg)) _ (by omega) hy) ?_
        show qm_Rn (d + 1) 86 28 [.ref 0, .int x1, .int x2] [.int y1] (mw φ) _
        refine qr_s hC (n := 2) (pc' := 30) (ls' := [.ref 0, .int x1, .int x2]) (st' := [.int x1, .ref 0, .int y1]) (h' := mw φ) rfl ?_
        obtain ⟨y2, hy, hs⟩ := qb1_s hs
        refine qr_c (j := 85) (as := [.ref 0, .int x1]) (rest := [.int y1]) (v := some (.int y2)) (h1 := mw φ) hC rfl rfl qC_85 rfl rfl (mo_costOf_n F d φ x1 _ (by omega) hy) ?_
        show qm_Rn (d + 1) 86 33 [.ref 0, .int x1, .int x2] [.int y2, .int y1] (mw φ) _
        refine qr_le2 (tgt := 56) hC rfl (by decide) rfl (fun hc => ?_) (fun hc => ?_)
        · rw [if_pos hc] at hs
          exact (ih2 φ x1 x2 _ hs)
        · rw [if_neg hc] at hs
          refine qr_s hC (n := 8) (pc' := 48) (ls' := [.ref 0, .int x1, .int x2]) (st' := [.int (x2 - 1), .ref 16, .int x2, .ref 16]) (h' := mw φ) rfl ?_
          obtain ⟨hq, hs⟩ := qg_s hs
          refine qr_ia (v := φ 16 ((x2 - 1).toNatClampNeg)) hC rfl rfl hq rfl ?_
          obtain ⟨hq, hs⟩ := qg_s hs
          refine qr_is (h' := mw (qm_u φ 16 x2.toNatClampNeg (φ 16 ((x2 - 1).toNatClampNeg)))) hC rfl rfl hq rfl ?_
          refine qr_s hC (n := 2) (pc' := 12) (ls' := [.ref 0, .int x1, .int (x2 + (-1))]) (st' := []) (h' := mw (qm_u φ 16 x2.toNatClampNeg (φ 16 ((x2 - 1).toNatClampNeg)))) rfl ?_
          exact (ih1 (qm_u φ 16 x2.toNatClampNeg (φ 16 ((x2 - 1).toNatClampNeg))) x1 (x2 + (-1)) _ hs)
    · obtain ⟨ht0, ht1⟩ := ht
      rw [if_neg ht0] at hs
      rw [if_neg ht1] at hs
      refine qr_s hC (n := 4) (pc' := 62) (ls' := [.ref 0, .int x1, .int x2]) (st' := [.int x1, .int x2, .ref 16]) (h' := mw φ) rfl ?_
      obtain ⟨hq, hs⟩ := qg_s hs
      refine qr_is (h' := mw (qm_u φ 16 x2.toNatClampNeg x1)) hC rfl rfl hq rfl ?_
      refine qr_s hC (n := 2) (pc' := 2) (ls' := [.ref 0, .int (x1 + 1), .int x2]) (st' := []) (h' := mw (qm_u φ 16 x2.toNatClampNeg x1)) rfl ?_
      exact qr_w (a := [.ref 0, .int (x1 + 1), .retAddr 0]) ⟨Or.inr rfl, Or.inr rfl, Or.inl rfl, trivial⟩ (ih0 (qm_u φ 16 x2.toNatClampNeg x1) (x1 + 1) 0 _ hs)
theorem mo_laysRanks_L2_n_t0 (F d : Nat) (hd : 3 ≤ d) (n : Nat) (φ : qm_F) (x1 : Int32) (x2 : Int32) (r : qm_F) (hs : mo_laysRanks_L2 F n 0 φ x1 x2 = some r) : qm_Rn d 86 2 [.ref 0, .int x1, .retAddr 0] [] (mw φ) (none, mw r) := (mo_laysRanks_L2_n0 F d hd n 0 φ x1 x2 r hs).1 rfl
theorem mo_laysRanks_L2_n_t1 (F d : Nat) (hd : 3 ≤ d) (n : Nat) (φ : qm_F) (x1 : Int32) (x2 : Int32) (r : qm_F) (hs : mo_laysRanks_L2 F n 1 φ x1 x2 = some r) : qm_Rn d 86 12 [.ref 0, .int x1, .int x2] [] (mw φ) (none, mw r) := (mo_laysRanks_L2_n0 F d hd n 1 φ x1 x2 r hs).2.1 rfl
theorem mo_laysRanks_L2_n_t2 (F d : Nat) (hd : 3 ≤ d) (n : Nat) (φ : qm_F) (x1 : Int32) (x2 : Int32) (r : qm_F) (hs : mo_laysRanks_L2 F n 2 φ x1 x2 = some r) : qm_Rn d 86 56 [.ref 0, .int x1, .int x2] [] (mw φ) (none, mw r) := (mo_laysRanks_L2_n0 F d hd n 2 φ x1 x2 r hs).2.2 ⟨by decide, by decide⟩
set_option maxRecDepth 100000 in
theorem mo_laysRanks_n (F d : Nat) (φ : qm_F) (r : qm_F) (hd : 3 ≤ d) (hs : mo_laysRanks F φ = some r) : qm_Rn d 86 0 [.ref 0, .retAddr 0, .retAddr 0] [] (mw φ) (none, mw r) := by
  obtain ⟨d, rfl⟩ : ∃ e, d = e + 1 := ⟨d - 1, by omega⟩
  have hC := qC_86
  unfold mo_laysRanks at hs
  refine qr_s hC (n := 2) (pc' := 2) (ls' := [.ref 0, .int 0, .retAddr 0]) (st' := []) (h' := mw φ) rfl ?_
  exact (mo_laysRanks_L2_n_t0 F (d + 1) (by omega) F φ 0 0 _ hs)
/-- SketchFillerModel.sketch(I)I -/
def mo_sketch_L188 (F : Nat) : Nat → qm_F → Int32 → Option (Int32 × qm_F)
  | 0, _, _ => none
  | n + 1, φ, x3 =>
    if 5 ≤ x3 then
      qb1 (mo_laysRanks F (qm_u (qm_u (qm_u (qm_u (qm_u (qm_u φ 0 45 0) 0 41 0) 0 42 (-1)) 0 43 0) 0 44 0) 0 40 0)) fun φ1 =>
      qb1 (mo_had F φ1 4) fun y1 =>
      some (y1, φ1)
    else
      qg (qm_in x3 5) <|
      mo_sketch_L188 F n (qm_u φ 15 x3.toNatClampNeg (-1)) (x3 + 1)
def mo_sketch_L142 (F : Nat) (φ : qm_F) (x2 : Int32) : Option (Int32 × qm_F) :=
  if ¬ x2 = 0 then
    qb1 (mo_copies F (qm_u (qm_u φ 0 13 0) 0 13 1)) fun φ1 =>
    mo_sketch_L188 F F (qm_u (qm_u φ1 0 13 0) 0 12 1) 0
  else
    some ((-2) - ((8 * (φ 0 10)) + (φ 0 9)), (qm_u φ 0 13 0))
def mo_sketch_L83 (F : Nat) : Nat → qm_F → Int32 → Option (Int32 × qm_F)
  | 0, _, _ => none
  | n + 1, φ, x2 =>
    if 15 ≤ x2 then
      qb1 (mo_steps F φ) fun φ1 =>
      qb2 (mo_reads F φ1) fun y1 φ2 =>
      if y1 = 0 then
        mo_sketch_L142 F φ2 y1
      else
        qb1 (mo_laysShown F φ2) fun φ3 =>
        mo_sketch_L142 F φ3 y1
    else
      qg (qm_in (15 + x2) 30) <|
      qg (qm_in (15 + x2) 30) <|
      qg (qm_in (15 + x2) 30) <|
      mo_sketch_L83 F n (qm_u (qm_u (qm_u φ 3 ((15 + x2).toNatClampNeg) 0) 4 ((15 + x2).toNatClampNeg) 0) 5 ((15 + x2).toNatClampNeg) 0) (x2 + 1)
def mo_sketch_L63 (F : Nat) : Nat → qm_F → Int32 → Option (Int32 × qm_F)
  | 0, _, _ => none
  | n + 1, φ, x2 =>
    if 7 ≤ x2 then
      mo_sketch_L83 F F φ 0
    else
      qb1 (mo_tells F φ x2 0) fun φ1 =>
      mo_sketch_L63 F n φ1 (x2 + 1)
def mo_sketch (F : Nat) (φ : qm_F) (x1 : Int32) : Option (Int32 × qm_F) :=
  qb1 (mo_within F (qm_u φ 0 0 0) (Int32.toInt64 x1) 0 (Int32.toInt64 (φ 0 2))) fun y1 =>
  if ¬ y1 = 0 then
    mo_sketch_L63 F F (qm_u (qm_u (qm_u (qm_u (qm_u (qm_u (qm_u (qm_u (qm_u φ 0 0 0) 0 2 0) 0 3 x1) 0 5 0) 0 9 0) 0 13 1) 0 21 0) 0 29 0) 0 30 0) 0
  else
    some ((-1), (qm_u φ 0 0 0))
set_option maxRecDepth 100000 in
theorem mo_sketch_L188_n (F d : Nat) (hd : 128 ≤ d) : ∀ (n : Nat) (φ : qm_F) (x3 : Int32) (r : (Int32 × qm_F)), mo_sketch_L188 F n φ x3 = some r → qm_Rn d 76 188 [.ref 0, .retAddr 0, .retAddr 0, .int x3] [] (mw φ) (some (.int r.1), mw r.2) := by
  obtain ⟨d, rfl⟩ : ∃ e, d = e + 1 := ⟨d - 1, by omega⟩
  have hC := qC_76
  intro n
  induction n with
  | zero => intro φ x3 r hs; simp [mo_sketch_L188] at hs
  | succ n ih =>
    intro φ x3 r hs
    rw [mo_sketch_L188] at hs
    refine qr_s hC (n := 2) (pc' := 190) (ls' := [.ref 0, .retAddr 0, .retAddr 0, .int x3]) (st' := [.int 5, .int x3]) (h' := mw φ) rfl ?_
    refine qr_ge2 (tgt := 206) hC rfl (by decide) rfl (fun hc => ?_) (fun hc => ?_)
    · rw [if_pos hc] at hs
      refine qr_s hC (n := 19) (pc' := 237) (ls' := [.ref 0, .retAddr 0, .retAddr 0, .int x3]) (st' := [.ref 0]) (h' := mw (qm_u (qm_u (qm_u (qm_u (qm_u (qm_u φ 0 45 0) 0 41 0) 0 42 (-1)) 0 43 0) 0 44 0) 0 40 0)) rfl ?_
      obtain ⟨φ1, hy, hs⟩ := qb1_s hs
      refine qr_c (j := 86) (as := [.ref 0]) (rest := []) (v := none) (h1 := mw φ1) hC rfl rfl qC_86 rfl rfl (mo_laysRanks_n F d (qm_u (qm_u (qm_u (qm_u (qm_u (qm_u φ 0 45 0) 0 41 0) 0 42 (-1)) 0 43 0) 0 44 0) 0 40 0) _ (by omega) hy) ?_
      show qm_Rn (d + 1) 76 240 [.ref 0, .retAddr 0, .retAddr 0, .int x3] [] (mw φ1) _
      refine qr_s hC (n := 2) (pc' := 242) (ls' := [.ref 0, .retAddr 0, .retAddr 0, .int x3]) (st' := [.int 4, .ref 0]) (h' := mw φ1) rfl ?_
      obtain ⟨y1, hy, hs⟩ := qb1_s hs
      refine qr_c (j := 45) (as := [.ref 0, .int 4]) (rest := []) (v := some (.int y1)) (h1 := mw φ1) hC rfl rfl qC_45 rfl rfl (mo_had_n F d φ1 4 _ (by omega) hy) ?_
      show qm_Rn (d + 1) 76 245 [.ref 0, .retAddr 0, .retAddr 0, .int x3] [.int y1] (mw φ1) _
      have hs := Option.some.inj hs
      subst hs
      exact qr_r hC rfl rfl
    · rw [if_neg hc] at hs
      refine qr_s hC (n := 4) (pc' := 199) (ls' := [.ref 0, .retAddr 0, .retAddr 0, .int x3]) (st' := [.int (-1), .int x3, .ref 15]) (h' := mw φ) rfl ?_
      obtain ⟨hq, hs⟩ := qg_s hs
      refine qr_is (h' := mw (qm_u φ 15 x3.toNatClampNeg (-1))) hC rfl rfl hq rfl ?_
      refine qr_s hC (n := 2) (pc' := 188) (ls' := [.ref 0, .retAddr 0, .retAddr 0, .int (x3 + 1)]) (st' := []) (h' := mw (qm_u φ 15 x3.toNatClampNeg (-1))) rfl ?_
      exact ih (qm_u φ 15 x3.toNatClampNeg (-1)) (x3 + 1) _ hs
set_option maxRecDepth 100000 in
theorem mo_sketch_L142_n (F d : Nat) (hd : 128 ≤ d) (φ : qm_F) (x2 : Int32) (r : (Int32 × qm_F)) (hs : mo_sketch_L142 F φ x2 = some r) : qm_Rn d 76 142 [.ref 0, .retAddr 0, .int x2, .retAddr 0] [] (mw φ) (some (.int r.1), mw r.2) := by
  obtain ⟨d, rfl⟩ : ∃ e, d = e + 1 := ⟨d - 1, by omega⟩
  have hC := qC_76
  unfold mo_sketch_L142 at hs
  refine qr_s hC (n := 4) (pc' := 148) (ls' := [.ref 0, .retAddr 0, .int x2, .retAddr 0]) (st' := [.int x2]) (h' := mw (qm_u φ 0 13 0)) rfl ?_
  refine qr_ne1 (tgt := 167) hC rfl (by decide) rfl (fun hc => ?_) (fun hc => ?_)
  · rw [if_pos hc] at hs
    refine qr_s hC (n := 4) (pc' := 173) (ls' := [.ref 0, .retAddr 0, .int x2, .retAddr 0]) (st' := [.ref 0]) (h' := mw (qm_u (qm_u φ 0 13 0) 0 13 1)) rfl ?_
    obtain ⟨φ1, hy, hs⟩ := qb1_s hs
    refine qr_c (j := 75) (as := [.ref 0]) (rest := []) (v := none) (h1 := mw φ1) hC rfl rfl qC_75 rfl rfl (mo_copies_n F d (qm_u (qm_u φ 0 13 0) 0 13 1) _ (by omega) hy) ?_
    show qm_Rn (d + 1) 76 176 [.ref 0, .retAddr 0, .int x2, .retAddr 0] [] (mw φ1) _
    refine qr_s hC (n := 8) (pc' := 188) (ls' := [.ref 0, .retAddr 0, .int x2, .int 0]) (st' := []) (h' := mw (qm_u (qm_u φ1 0 13 0) 0 12 1)) rfl ?_
    exact qr_w (a := [.ref 0, .retAddr 0, .retAddr 0, .int 0]) ⟨Or.inr rfl, Or.inr rfl, Or.inl rfl, Or.inr rfl, trivial⟩ (mo_sketch_L188_n F (d + 1) (by omega) F (qm_u (qm_u φ1 0 13 0) 0 12 1) 0 _ hs)
  · rw [if_neg hc] at hs
    refine qr_s hC (n := 9) (pc' := 166) (ls' := [.ref 0, .retAddr 0, .int x2, .retAddr 0]) (st' := [.int ((-2) - ((8 * (φ 0 10)) + (φ 0 9)))]) (h' := mw (qm_u φ 0 13 0)) rfl ?_
    have hs := Option.some.inj hs
    subst hs
    exact qr_r hC rfl rfl
set_option maxRecDepth 100000 in
theorem mo_sketch_L83_n (F d : Nat) (hd : 128 ≤ d) : ∀ (n : Nat) (φ : qm_F) (x2 : Int32) (r : (Int32 × qm_F)), mo_sketch_L83 F n φ x2 = some r → qm_Rn d 76 83 [.ref 0, .retAddr 0, .int x2, .retAddr 0] [] (mw φ) (some (.int r.1), mw r.2) := by
  obtain ⟨d, rfl⟩ : ∃ e, d = e + 1 := ⟨d - 1, by omega⟩
  have hC := qC_76
  intro n
  induction n with
  | zero => intro φ x2 r hs; simp [mo_sketch_L83] at hs
  | succ n ih =>
    intro φ x2 r hs
    rw [mo_sketch_L83] at hs
    refine qr_s hC (n := 2) (pc' := 86) (ls' := [.ref 0, .retAddr 0, .int x2, .retAddr 0]) (st' := [.int 15, .int x2]) (h' := mw φ) rfl ?_
    refine qr_ge2 (tgt := 125) hC rfl (by decide) rfl (fun hc => ?_) (fun hc => ?_)
    · rw [if_pos hc] at hs
      refine qr_s hC (n := 1) (pc' := 126) (ls' := [.ref 0, .retAddr 0, .int x2, .retAddr 0]) (st' := [.ref 0]) (h' := mw φ) rfl ?_
      obtain ⟨φ1, hy, hs⟩ := qb1_s hs
      refine qr_c (j := 36) (as := [.ref 0]) (rest := []) (v := none) (h1 := mw φ1) hC rfl rfl qC_36 rfl rfl (mo_steps_n F d φ _ (by omega) hy) ?_
      show qm_Rn (d + 1) 76 129 [.ref 0, .retAddr 0, .int x2, .retAddr 0] [] (mw φ1) _
      refine qr_s hC (n := 1) (pc' := 130) (ls' := [.ref 0, .retAddr 0, .int x2, .retAddr 0]) (st' := [.ref 0]) (h' := mw φ1) rfl ?_
      obtain ⟨y1, φ2, hy, hs⟩ := qb2_s hs
      refine qr_c (j := 73) (as := [.ref 0]) (rest := []) (v := some (.int y1)) (h1 := mw φ2) hC rfl rfl qC_73 rfl rfl (mo_reads_n F d φ1 _ (by omega) hy) ?_
      show qm_Rn (d + 1) 76 133 [.ref 0, .retAddr 0, .int x2, .retAddr 0] [.int y1] (mw φ2) _
      refine qr_s hC (n := 2) (pc' := 135) (ls' := [.ref 0, .retAddr 0, .int y1, .retAddr 0]) (st' := [.int y1]) (h' := mw φ2) rfl ?_
      refine qr_eq1 (tgt := 142) hC rfl (by decide) rfl (fun hc => ?_) (fun hc => ?_)
      · rw [if_pos hc] at hs
        exact mo_sketch_L142_n F (d + 1) (by omega) φ2 y1 _ hs
      · rw [if_neg hc] at hs
        refine qr_s hC (n := 1) (pc' := 139) (ls' := [.ref 0, .retAddr 0, .int y1, .retAddr 0]) (st' := [.ref 0]) (h' := mw φ2) rfl ?_
        obtain ⟨φ3, hy, hs⟩ := qb1_s hs
        refine qr_c (j := 74) (as := [.ref 0]) (rest := []) (v := none) (h1 := mw φ3) hC rfl rfl qC_74 rfl rfl (mo_laysShown_n F d φ2 _ (by omega) hy) ?_
        show qm_Rn (d + 1) 76 142 [.ref 0, .retAddr 0, .int y1, .retAddr 0] [] (mw φ3) _
        exact mo_sketch_L142_n F (d + 1) (by omega) φ3 y1 _ hs
    · rw [if_neg hc] at hs
      refine qr_s hC (n := 6) (pc' := 98) (ls' := [.ref 0, .retAddr 0, .int x2, .retAddr 0]) (st' := [.int 0, .int (15 + x2), .ref 3]) (h' := mw φ) rfl ?_
      obtain ⟨hq, hs⟩ := qg_s hs
      refine qr_is (h' := mw (qm_u φ 3 ((15 + x2).toNatClampNeg) 0)) hC rfl rfl hq rfl ?_
      refine qr_s hC (n := 6) (pc' := 108) (ls' := [.ref 0, .retAddr 0, .int x2, .retAddr 0]) (st' := [.int 0, .int (15 + x2), .ref 4]) (h' := mw (qm_u φ 3 ((15 + x2).toNatClampNeg) 0)) rfl ?_
      obtain ⟨hq, hs⟩ := qg_s hs
      refine qr_is (h' := mw (qm_u (qm_u φ 3 ((15 + x2).toNatClampNeg) 0) 4 ((15 + x2).toNatClampNeg) 0)) hC rfl rfl hq rfl ?_
      refine qr_s hC (n := 6) (pc' := 118) (ls' := [.ref 0, .retAddr 0, .int x2, .retAddr 0]) (st' := [.int 0, .int (15 + x2), .ref 5]) (h' := mw (qm_u (qm_u φ 3 ((15 + x2).toNatClampNeg) 0) 4 ((15 + x2).toNatClampNeg) 0)) rfl ?_
      obtain ⟨hq, hs⟩ := qg_s hs
      refine qr_is (h' := mw (qm_u (qm_u (qm_u φ 3 ((15 + x2).toNatClampNeg) 0) 4 ((15 + x2).toNatClampNeg) 0) 5 ((15 + x2).toNatClampNeg) 0)) hC rfl rfl hq rfl ?_
      refine qr_s hC (n := 2) (pc' := 83) (ls' := [.ref 0, .retAddr 0, .int (x2 + 1), .retAddr 0]) (st' := []) (h' := mw (qm_u (qm_u (qm_u φ 3 ((15 + x2).toNatClampNeg) 0) 4 ((15 + x2).toNatClampNeg) 0) 5 ((15 + x2).toNatClampNeg) 0)) rfl ?_
      exact ih (qm_u (qm_u (qm_u φ 3 ((15 + x2).toNatClampNeg) 0) 4 ((15 + x2).toNatClampNeg) 0) 5 ((15 + x2).toNatClampNeg) 0) (x2 + 1) _ hs
set_option maxRecDepth 100000 in
theorem mo_sketch_L63_n (F d : Nat) (hd : 128 ≤ d) : ∀ (n : Nat) (φ : qm_F) (x2 : Int32) (r : (Int32 × qm_F)), mo_sketch_L63 F n φ x2 = some r → qm_Rn d 76 63 [.ref 0, .retAddr 0, .int x2, .retAddr 0] [] (mw φ) (some (.int r.1), mw r.2) := by
  obtain ⟨d, rfl⟩ : ∃ e, d = e + 1 := ⟨d - 1, by omega⟩
  have hC := qC_76
  intro n
  induction n with
  | zero => intro φ x2 r hs; simp [mo_sketch_L63] at hs
  | succ n ih =>
    intro φ x2 r hs
    rw [mo_sketch_L63] at hs
    refine qr_s hC (n := 2) (pc' := 66) (ls' := [.ref 0, .retAddr 0, .int x2, .retAddr 0]) (st' := [.int 7, .int x2]) (h' := mw φ) rfl ?_
    refine qr_ge2 (tgt := 81) hC rfl (by decide) rfl (fun hc => ?_) (fun hc => ?_)
    · rw [if_pos hc] at hs
      refine qr_s hC (n := 2) (pc' := 83) (ls' := [.ref 0, .retAddr 0, .int 0, .retAddr 0]) (st' := []) (h' := mw φ) rfl ?_
      exact mo_sketch_L83_n F (d + 1) (by omega) F φ 0 _ hs
    · rw [if_neg hc] at hs
      refine qr_s hC (n := 3) (pc' := 72) (ls' := [.ref 0, .retAddr 0, .int x2, .retAddr 0]) (st' := [.int 0, .int x2, .ref 0]) (h' := mw φ) rfl ?_
      obtain ⟨φ1, hy, hs⟩ := qb1_s hs
      refine qr_c (j := 46) (as := [.ref 0, .int x2, .int 0]) (rest := []) (v := none) (h1 := mw φ1) hC rfl rfl qC_46 rfl rfl (mo_tells_n F d φ x2 0 _ (by omega) hy) ?_
      show qm_Rn (d + 1) 76 75 [.ref 0, .retAddr 0, .int x2, .retAddr 0] [] (mw φ1) _
      refine qr_s hC (n := 2) (pc' := 63) (ls' := [.ref 0, .retAddr 0, .int (x2 + 1), .retAddr 0]) (st' := []) (h' := mw φ1) rfl ?_
      exact ih φ1 (x2 + 1) _ hs
set_option maxRecDepth 100000 in
theorem mo_sketch_n (F d : Nat) (φ : qm_F) (x1 : Int32) (r : (Int32 × qm_F)) (hd : 128 ≤ d) (hs : mo_sketch F φ x1 = some r) : qm_Rn d 76 0 [.ref 0, .int x1, .retAddr 0, .retAddr 0] [] (mw φ) (some (.int r.1), mw r.2) := by
  obtain ⟨d, rfl⟩ : ∃ e, d = e + 1 := ⟨d - 1, by omega⟩
  have hC := qC_76
  unfold mo_sketch at hs
  refine qr_s hC (n := 9) (pc' := 13) (ls' := [.ref 0, .int x1, .retAddr 0, .retAddr 0]) (st' := [.long (Int32.toInt64 (φ 0 2)), .long 0, .long (Int32.toInt64 x1)]) (h' := mw (qm_u φ 0 0 0)) rfl ?_
  obtain ⟨y1, hy, hs⟩ := qb1_s hs
  refine qr_c (j := 31) (as := [.long (Int32.toInt64 x1), .long 0, .long (Int32.toInt64 (φ 0 2))]) (rest := []) (v := some (.int y1)) (h1 := mw (qm_u φ 0 0 0)) hC rfl rfl qC_31 rfl rfl (mo_within_n F d (qm_u φ 0 0 0) (Int32.toInt64 x1) 0 (Int32.toInt64 (φ 0 2)) _ (by omega) hy) ?_
  show qm_Rn (d + 1) 76 16 [.ref 0, .int x1, .retAddr 0, .retAddr 0] [.int y1] (mw (qm_u φ 0 0 0)) _
  refine qr_ne1 (tgt := 21) hC rfl (by decide) rfl (fun hc => ?_) (fun hc => ?_)
  · rw [if_pos hc] at hs
    refine qr_s hC (n := 26) (pc' := 63) (ls' := [.ref 0, .int x1, .int 0, .retAddr 0]) (st' := []) (h' := mw (qm_u (qm_u (qm_u (qm_u (qm_u (qm_u (qm_u (qm_u (qm_u φ 0 0 0) 0 2 0) 0 3 x1) 0 5 0) 0 9 0) 0 13 1) 0 21 0) 0 29 0) 0 30 0)) rfl ?_
    exact qr_w (a := [.ref 0, .retAddr 0, .int 0, .retAddr 0]) ⟨Or.inr rfl, Or.inl rfl, Or.inr rfl, Or.inr rfl, trivial⟩ (mo_sketch_L63_n F (d + 1) (by omega) F (qm_u (qm_u (qm_u (qm_u (qm_u (qm_u (qm_u (qm_u (qm_u φ 0 0 0) 0 2 0) 0 3 x1) 0 5 0) 0 9 0) 0 13 1) 0 21 0) 0 29 0) 0 30 0) 0 _ hs)
  · rw [if_neg hc] at hs
    refine qr_s hC (n := 1) (pc' := 20) (ls' := [.ref 0, .int x1, .retAddr 0, .retAddr 0]) (st' := [.int (-1)]) (h' := mw (qm_u φ 0 0 0)) rfl ?_
    have hs := Option.some.inj hs
    subst hs
    exact qr_r hC rfl rfl
/-- SketchFillerModel.has(I)I -/
def mo_has (F : Nat) (φ : qm_F) (x1 : Int32) : Option (Int32 × qm_F) :=
  if (φ 0 12) = 0 then
    some ((-1), (qm_u φ 0 0 0))
  else
    qb1 (mo_within F (qm_u φ 0 0 0) (Int32.toInt64 x1) 0 6) fun y1 =>
    if y1 = 0 then
      some ((-1), (qm_u φ 0 0 0))
    else
      qg (qm_in x1 14) <|
      some (φ 2 x1.toNatClampNeg, (qm_u φ 0 0 0))
set_option maxRecDepth 100000 in
theorem mo_has_n (F d : Nat) (φ : qm_F) (x1 : Int32) (r : (Int32 × qm_F)) (hd : 1 ≤ d) (hs : mo_has F φ x1 = some r) : qm_Rn d 77 0 [.ref 0, .int x1] [] (mw φ) (some (.int r.1), mw r.2) := by
  obtain ⟨d, rfl⟩ : ∃ e, d = e + 1 := ⟨d - 1, by omega⟩
  have hC := qC_77
  unfold mo_has at hs
  refine qr_s hC (n := 5) (pc' := 9) (ls' := [.ref 0, .int x1]) (st' := [.int (φ 0 12)]) (h' := mw (qm_u φ 0 0 0)) rfl ?_
  refine qr_eq1 (tgt := 33) hC rfl (by decide) rfl (fun hc => ?_) (fun hc => ?_)
  · rw [if_pos hc] at hs
    refine qr_s hC (n := 1) (pc' := 34) (ls' := [.ref 0, .int x1]) (st' := [.int (-1)]) (h' := mw (qm_u φ 0 0 0)) rfl ?_
    have hs := Option.some.inj hs
    subst hs
    exact qr_r hC rfl rfl
  · rw [if_neg hc] at hs
    refine qr_s hC (n := 4) (pc' := 18) (ls' := [.ref 0, .int x1]) (st' := [.long 6, .long 0, .long (Int32.toInt64 x1)]) (h' := mw (qm_u φ 0 0 0)) rfl ?_
    obtain ⟨y1, hy, hs⟩ := qb1_s hs
    refine qr_c (j := 31) (as := [.long (Int32.toInt64 x1), .long 0, .long 6]) (rest := []) (v := some (.int y1)) (h1 := mw (qm_u φ 0 0 0)) hC rfl rfl qC_31 rfl rfl (mo_within_n F d (qm_u φ 0 0 0) (Int32.toInt64 x1) 0 6 _ (by omega) hy) ?_
    show qm_Rn (d + 1) 77 21 [.ref 0, .int x1] [.int y1] (mw (qm_u φ 0 0 0)) _
    refine qr_eq1 (tgt := 33) hC rfl (by decide) rfl (fun hc => ?_) (fun hc => ?_)
    · rw [if_pos hc] at hs
      refine qr_s hC (n := 1) (pc' := 34) (ls' := [.ref 0, .int x1]) (st' := [.int (-1)]) (h' := mw (qm_u φ 0 0 0)) rfl ?_
      have hs := Option.some.inj hs
      subst hs
      exact qr_r hC rfl rfl
    · rw [if_neg hc] at hs
      refine qr_s hC (n := 3) (pc' := 29) (ls' := [.ref 0, .int x1]) (st' := [.int x1, .ref 2]) (h' := mw (qm_u φ 0 0 0)) rfl ?_
      obtain ⟨hq, hs⟩ := qg_s hs
      refine qr_ia (v := φ 2 x1.toNatClampNeg) hC rfl rfl hq rfl ?_
      refine qr_s hC (n := 1) (pc' := 34) (ls' := [.ref 0, .int x1]) (st' := [.int (φ 2 x1.toNatClampNeg)]) (h' := mw (qm_u φ 0 0 0)) rfl ?_
      have hs := Option.some.inj hs
      subst hs
      exact qr_r hC rfl rfl
/-- SketchFillerModel.inputs()I -/
def mo_inputs (F : Nat) (φ : qm_F) : Option Int32 :=
  some (1 <<< ((φ 2 5) &&& 31))
set_option maxRecDepth 100000 in
theorem mo_inputs_n (F d : Nat) (φ : qm_F) (r : Int32) (hd : 0 ≤ d) (hs : mo_inputs F φ = some r) : qm_Rn d 79 0 [.ref 0] [] (mw φ) (some (.int r), mw φ) := by
  have hC := qC_79
  unfold mo_inputs at hs
  refine qr_s hC (n := 4) (pc' := 6) (ls' := [.ref 0]) (st' := [.int 5, .ref 2, .int 1]) (h' := mw φ) rfl ?_
  refine qr_ia (v := φ 2 5) hC rfl rfl (by decide) rfl ?_
  refine qr_s hC (n := 1) (pc' := 8) (ls' := [.ref 0]) (st' := [.int (1 <<< ((φ 2 5) &&& 31))]) (h' := mw φ) rfl ?_
  have hs := Option.some.inj hs
  subst hs
  exact qr_r hC rfl rfl
/-- SketchFillerModel.isGuess(I)Z -/
def mo_isGuess (F : Nat) (φ : qm_F) (x1 : Int32) : Option Int32 :=
  if (φ 0 12) = 0 then
    some 0
  else
    qb1 (mo_guesses F φ) fun y1 =>
    qb1 (mo_within F φ (Int32.toInt64 x1) 0 (Int32.toInt64 (y1 - 1))) fun y2 =>
    if y2 = 0 then
      some 0
    else
      some 1
set_option maxRecDepth 100000 in
theorem mo_isGuess_n (F d : Nat) (φ : qm_F) (x1 : Int32) (r : Int32) (hd : 1 ≤ d) (hs : mo_isGuess F φ x1 = some r) : qm_Rn d 80 0 [.ref 0, .int x1] [] (mw φ) (some (.int r), mw φ) := by
  obtain ⟨d, rfl⟩ : ∃ e, d = e + 1 := ⟨d - 1, by omega⟩
  have hC := qC_80
  unfold mo_isGuess at hs
  refine qr_s hC (n := 2) (pc' := 4) (ls' := [.ref 0, .int x1]) (st' := [.int (φ 0 12)]) (h' := mw φ) rfl ?_
  refine qr_eq1 (tgt := 27) hC rfl (by decide) rfl (fun hc => ?_) (fun hc => ?_)
  · rw [if_pos hc] at hs
    refine qr_s hC (n := 1) (pc' := 28) (ls' := [.ref 0, .int x1]) (st' := [.int 0]) (h' := mw φ) rfl ?_
    have hs := Option.some.inj hs
    subst hs
    exact qr_r hC rfl rfl
  · rw [if_neg hc] at hs
    refine qr_s hC (n := 4) (pc' := 11) (ls' := [.ref 0, .int x1]) (st' := [.ref 0, .long 0, .long (Int32.toInt64 x1)]) (h' := mw φ) rfl ?_
    obtain ⟨y1, hy, hs⟩ := qb1_s hs
    refine qr_c (j := 78) (as := [.ref 0]) (rest := [.long 0, .long (Int32.toInt64 x1)]) (v := some (.int y1)) (h1 := mw φ) hC rfl rfl qC_78 rfl rfl (mo_guesses_n F d φ _ (by omega) hy) ?_
    show qm_Rn (d + 1) 80 14 [.ref 0, .int x1] [.int y1, .long 0, .long (Int32.toInt64 x1)] (mw φ) _
    refine qr_s hC (n := 3) (pc' := 17) (ls' := [.ref 0, .int x1]) (st' := [.long (Int32.toInt64 (y1 - 1)), .long 0, .long (Int32.toInt64 x1)]) (h' := mw φ) rfl ?_
    obtain ⟨y2, hy, hs⟩ := qb1_s hs
    refine qr_c (j := 31) (as := [.long (Int32.toInt64 x1), .long 0, .long (Int32.toInt64 (y1 - 1))]) (rest := []) (v := some (.int y2)) (h1 := mw φ) hC rfl rfl qC_31 rfl rfl (mo_within_n F d φ (Int32.toInt64 x1) 0 (Int32.toInt64 (y1 - 1)) _ (by omega) hy) ?_
    show qm_Rn (d + 1) 80 20 [.ref 0, .int x1] [.int y2] (mw φ) _
    refine qr_eq1 (tgt := 27) hC rfl (by decide) rfl (fun hc => ?_) (fun hc => ?_)
    · rw [if_pos hc] at hs
      refine qr_s hC (n := 1) (pc' := 28) (ls' := [.ref 0, .int x1]) (st' := [.int 0]) (h' := mw φ) rfl ?_
      have hs := Option.some.inj hs
      subst hs
      exact qr_r hC rfl rfl
    · rw [if_neg hc] at hs
      refine qr_s hC (n := 2) (pc' := 28) (ls' := [.ref 0, .int x1]) (st' := [.int 1]) (h' := mw φ) rfl ?_
      have hs := Option.some.inj hs
      subst hs
      exact qr_r hC rfl rfl
/-- SketchFillerModel.isInput(I)Z -/
def mo_isInput (F : Nat) (φ : qm_F) (x1 : Int32) : Option Int32 :=
  if (φ 0 12) = 0 then
    some 0
  else
    qb1 (mo_inputs F φ) fun y1 =>
    qb1 (mo_within F φ (Int32.toInt64 x1) 0 (Int32.toInt64 (y1 - 1))) fun y2 =>
    if y2 = 0 then
      some 0
    else
      some 1
set_option maxRecDepth 100000 in
theorem mo_isInput_n (F d : Nat) (φ : qm_F) (x1 : Int32) (r : Int32) (hd : 1 ≤ d) (hs : mo_isInput F φ x1 = some r) : qm_Rn d 81 0 [.ref 0, .int x1] [] (mw φ) (some (.int r), mw φ) := by
  obtain ⟨d, rfl⟩ : ∃ e, d = e + 1 := ⟨d - 1, by omega⟩
  have hC := qC_81
  unfold mo_isInput at hs
  refine qr_s hC (n := 2) (pc' := 4) (ls' := [.ref 0, .int x1]) (st' := [.int (φ 0 12)]) (h' := mw φ) rfl ?_
  refine qr_eq1 (tgt := 27) hC rfl (by decide) rfl (fun hc => ?_) (fun hc => ?_)
  · rw [if_pos hc] at hs
    refine qr_s hC (n := 1) (pc' := 28) (ls' := [.ref 0, .int x1]) (st' := [.int 0]) (h' := mw φ) rfl ?_
    have hs := Option.some.inj hs
    subst hs
    exact qr_r hC rfl rfl
  · rw [if_neg hc] at hs
    refine qr_s hC (n := 4) (pc' := 11) (ls' := [.ref 0, .int x1]) (st' := [.ref 0, .long 0, .long (Int32.toInt64 x1)]) (h' := mw φ) rfl ?_
    obtain ⟨y1, hy, hs⟩ := qb1_s hs
    refine qr_c (j := 79) (as := [.ref 0]) (rest := [.long 0, .long (Int32.toInt64 x1)]) (v := some (.int y1)) (h1 := mw φ) hC rfl rfl qC_79 rfl rfl (mo_inputs_n F d φ _ (by omega) hy) ?_
    show qm_Rn (d + 1) 81 14 [.ref 0, .int x1] [.int y1, .long 0, .long (Int32.toInt64 x1)] (mw φ) _
    refine qr_s hC (n := 3) (pc' := 17) (ls' := [.ref 0, .int x1]) (st' := [.long (Int32.toInt64 (y1 - 1)), .long 0, .long (Int32.toInt64 x1)]) (h' := mw φ) rfl ?_
    obtain ⟨y2, hy, hs⟩ := qb1_s hs
    refine qr_c (j := 31) (as := [.long (Int32.toInt64 x1), .long 0, .long (Int32.toInt64 (y1 - 1))]) (rest := []) (v := some (.int y2)) (h1 := mw φ) hC rfl rfl qC_31 rfl rfl (mo_within_n F d φ (Int32.toInt64 x1) 0 (Int32.toInt64 (y1 - 1)) _ (by omega) hy) ?_
    show qm_Rn (d + 1) 81 20 [.ref 0, .int x1] [.int y2] (mw φ) _
    refine qr_eq1 (tgt := 27) hC rfl (by decide) rfl (fun hc => ?_) (fun hc => ?_)
    · rw [if_pos hc] at hs
      refine qr_s hC (n := 1) (pc' := 28) (ls' := [.ref 0, .int x1]) (st' := [.int 0]) (h' := mw φ) rfl ?_
      have hs := Option.some.inj hs
      subst hs
      exact qr_r hC rfl rfl
    · rw [if_neg hc] at hs
      refine qr_s hC (n := 2) (pc' := 28) (ls' := [.ref 0, .int x1]) (st' := [.int 1]) (h' := mw φ) rfl ?_
      have hs := Option.some.inj hs
      subst hs
      exact qr_r hC rfl rfl
/-- SketchFillerModel.isHole(I)Z -/
def mo_isHole (F : Nat) (φ : qm_F) (x1 : Int32) : Option Int32 :=
  if (φ 0 12) = 0 then
    some 0
  else
    qb1 (mo_within F φ (Int32.toInt64 x1) 0 (Int32.toInt64 ((φ 2 2) - 1))) fun y1 =>
    if y1 = 0 then
      some 0
    else
      some 1
set_option maxRecDepth 100000 in
theorem mo_isHole_n (F d : Nat) (φ : qm_F) (x1 : Int32) (r : Int32) (hd : 1 ≤ d) (hs : mo_isHole F φ x1 = some r) : qm_Rn d 82 0 [.ref 0, .int x1] [] (mw φ) (some (.int r), mw φ) := by
  obtain ⟨d, rfl⟩ : ∃ e, d = e + 1 := ⟨d - 1, by omega⟩
  have hC := qC_82
  unfold mo_isHole at hs
  refine qr_s hC (n := 2) (pc' := 4) (ls' := [.ref 0, .int x1]) (st' := [.int (φ 0 12)]) (h' := mw φ) rfl ?_
  refine qr_eq1 (tgt := 29) hC rfl (by decide) rfl (fun hc => ?_) (fun hc => ?_)
  · rw [if_pos hc] at hs
    refine qr_s hC (n := 1) (pc' := 30) (ls' := [.ref 0, .int x1]) (st' := [.int 0]) (h' := mw φ) rfl ?_
    have hs := Option.some.inj hs
    subst hs
    exact qr_r hC rfl rfl
  · rw [if_neg hc] at hs
    refine qr_s hC (n := 6) (pc' := 15) (ls' := [.ref 0, .int x1]) (st' := [.int 2, .ref 2, .long 0, .long (Int32.toInt64 x1)]) (h' := mw φ) rfl ?_
    refine qr_ia (v := φ 2 2) hC rfl rfl (by decide) rfl ?_
    refine qr_s hC (n := 3) (pc' := 19) (ls' := [.ref 0, .int x1]) (st' := [.long (Int32.toInt64 ((φ 2 2) - 1)), .long 0, .long (Int32.toInt64 x1)]) (h' := mw φ) rfl ?_
    obtain ⟨y1, hy, hs⟩ := qb1_s hs
    refine qr_c (j := 31) (as := [.long (Int32.toInt64 x1), .long 0, .long (Int32.toInt64 ((φ 2 2) - 1))]) (rest := []) (v := some (.int y1)) (h1 := mw φ) hC rfl rfl qC_31 rfl rfl (mo_within_n F d φ (Int32.toInt64 x1) 0 (Int32.toInt64 ((φ 2 2) - 1)) _ (by omega) hy) ?_
    show qm_Rn (d + 1) 82 22 [.ref 0, .int x1] [.int y1] (mw φ) _
    refine qr_eq1 (tgt := 29) hC rfl (by decide) rfl (fun hc => ?_) (fun hc => ?_)
    · rw [if_pos hc] at hs
      refine qr_s hC (n := 1) (pc' := 30) (ls' := [.ref 0, .int x1]) (st' := [.int 0]) (h' := mw φ) rfl ?_
      have hs := Option.some.inj hs
      subst hs
      exact qr_r hC rfl rfl
    · rw [if_neg hc] at hs
      refine qr_s hC (n := 2) (pc' := 30) (ls' := [.ref 0, .int x1]) (st' := [.int 1]) (h' := mw φ) rfl ?_
      have hs := Option.some.inj hs
      subst hs
      exact qr_r hC rfl rfl
/-- SketchFillerModel.hole(II)I -/
def mo_hole (F : Nat) (φ : qm_F) (x1 : Int32) (x2 : Int32) : Option (Int32 × qm_F) :=
  qb1 (mo_isHole F (qm_u φ 0 0 0) x1) fun y1 =>
  if ¬ y1 = 0 then
    if ¬ x2 = 0 then
      if ¬ x2 = 1 then
        if ¬ x2 = 2 then
          some ((-1), (qm_u φ 0 0 0))
        else
          qg (qm_in x1 5) <|
          some (φ 15 x1.toNatClampNeg, (qm_u φ 0 0 0))
      else
        qg (qm_in (3 + x1) 30) <|
        some (φ 5 ((3 + x1).toNatClampNeg), (qm_u φ 0 0 0))
    else
      qg (qm_in (3 + x1) 30) <|
      some (φ 4 ((3 + x1).toNatClampNeg), (qm_u φ 0 0 0))
  else
    some ((-1), (qm_u φ 0 0 0))
set_option maxRecDepth 100000 in
theorem mo_hole_n (F d : Nat) (φ : qm_F) (x1 : Int32) (x2 : Int32) (r : (Int32 × qm_F)) (hd : 2 ≤ d) (hs : mo_hole F φ x1 x2 = some r) : qm_Rn d 87 0 [.ref 0, .int x1, .int x2] [] (mw φ) (some (.int r.1), mw r.2) := by
  obtain ⟨d, rfl⟩ : ∃ e, d = e + 1 := ⟨d - 1, by omega⟩
  have hC := qC_87
  unfold mo_hole at hs
  refine qr_s hC (n := 5) (pc' := 7) (ls' := [.ref 0, .int x1, .int x2]) (st' := [.int x1, .ref 0]) (h' := mw (qm_u φ 0 0 0)) rfl ?_
  obtain ⟨y1, hy, hs⟩ := qb1_s hs
  refine qr_c (j := 82) (as := [.ref 0, .int x1]) (rest := []) (v := some (.int y1)) (h1 := mw (qm_u φ 0 0 0)) hC rfl rfl qC_82 rfl rfl (mo_isHole_n F d (qm_u φ 0 0 0) x1 _ (by omega) hy) ?_
  show qm_Rn (d + 1) 87 10 [.ref 0, .int x1, .int x2] [.int y1] (mw (qm_u φ 0 0 0)) _
  refine qr_ne1 (tgt := 15) hC rfl (by decide) rfl (fun hc => ?_) (fun hc => ?_)
  · rw [if_pos hc] at hs
    refine qr_s hC (n := 1) (pc' := 16) (ls' := [.ref 0, .int x1, .int x2]) (st' := [.int x2]) (h' := mw (qm_u φ 0 0 0)) rfl ?_
    refine qr_ne1 (tgt := 30) hC rfl (by decide) rfl (fun hc => ?_) (fun hc => ?_)
    · rw [if_pos hc] at hs
      refine qr_s hC (n := 2) (pc' := 32) (ls' := [.ref 0, .int x1, .int x2]) (st' := [.int 1, .int x2]) (h' := mw (qm_u φ 0 0 0)) rfl ?_
      refine qr_ne2 (tgt := 46) hC rfl (by decide) rfl (fun hc => ?_) (fun hc => ?_)
      · rw [if_pos hc] at hs
        refine qr_s hC (n := 2) (pc' := 48) (ls' := [.ref 0, .int x1, .int x2]) (st' := [.int 2, .int x2]) (h' := mw (qm_u φ 0 0 0)) rfl ?_
        refine qr_ne2 (tgt := 60) hC rfl (by decide) rfl (fun hc => ?_) (fun hc => ?_)
        · rw [if_pos hc] at hs
          refine qr_s hC (n := 1) (pc' := 61) (ls' := [.ref 0, .int x1, .int x2]) (st' := [.int (-1)]) (h' := mw (qm_u φ 0 0 0)) rfl ?_
          have hs := Option.some.inj hs
          subst hs
          exact qr_r hC rfl rfl
        · rw [if_neg hc] at hs
          refine qr_s hC (n := 3) (pc' := 56) (ls' := [.ref 0, .int x1, .int x2]) (st' := [.int x1, .ref 15]) (h' := mw (qm_u φ 0 0 0)) rfl ?_
          obtain ⟨hq, hs⟩ := qg_s hs
          refine qr_ia (v := φ 15 x1.toNatClampNeg) hC rfl rfl hq rfl ?_
          refine qr_s hC (n := 1) (pc' := 61) (ls' := [.ref 0, .int x1, .int x2]) (st' := [.int (φ 15 x1.toNatClampNeg)]) (h' := mw (qm_u φ 0 0 0)) rfl ?_
          have hs := Option.some.inj hs
          subst hs
          exact qr_r hC rfl rfl
      · rw [if_neg hc] at hs
        refine qr_s hC (n := 5) (pc' := 42) (ls' := [.ref 0, .int x1, .int x2]) (st' := [.int (3 + x1), .ref 5]) (h' := mw (qm_u φ 0 0 0)) rfl ?_
        obtain ⟨hq, hs⟩ := qg_s hs
        refine qr_ia (v := φ 5 ((3 + x1).toNatClampNeg)) hC rfl rfl hq rfl ?_
        refine qr_s hC (n := 1) (pc' := 61) (ls' := [.ref 0, .int x1, .int x2]) (st' := [.int (φ 5 ((3 + x1).toNatClampNeg))]) (h' := mw (qm_u φ 0 0 0)) rfl ?_
        have hs := Option.some.inj hs
        subst hs
        exact qr_r hC rfl rfl
    · rw [if_neg hc] at hs
      refine qr_s hC (n := 5) (pc' := 26) (ls' := [.ref 0, .int x1, .int x2]) (st' := [.int (3 + x1), .ref 4]) (h' := mw (qm_u φ 0 0 0)) rfl ?_
      obtain ⟨hq, hs⟩ := qg_s hs
      refine qr_ia (v := φ 4 ((3 + x1).toNatClampNeg)) hC rfl rfl hq rfl ?_
      refine qr_s hC (n := 1) (pc' := 61) (ls' := [.ref 0, .int x1, .int x2]) (st' := [.int (φ 4 ((3 + x1).toNatClampNeg))]) (h' := mw (qm_u φ 0 0 0)) rfl ?_
      have hs := Option.some.inj hs
      subst hs
      exact qr_r hC rfl rfl
  · rw [if_neg hc] at hs
    refine qr_s hC (n := 1) (pc' := 14) (ls' := [.ref 0, .int x1, .int x2]) (st' := [.int (-1)]) (h' := mw (qm_u φ 0 0 0)) rfl ?_
    have hs := Option.some.inj hs
    subst hs
    exact qr_r hC rfl rfl
/-- SketchFillerModel.value(II)I -/
def mo_value (F : Nat) (φ : qm_F) (x1 : Int32) (x2 : Int32) : Option (Int32 × qm_F) :=
  qb1 (mo_isGuess F (qm_u φ 0 0 0) x1) fun y1 =>
  if y1 = 0 then
    some ((-1), (qm_u φ 0 0 0))
  else
    qb1 (mo_isHole F (qm_u φ 0 0 0) x2) fun y2 =>
    if y2 = 0 then
      some ((-1), (qm_u φ 0 0 0))
    else
      qb1 (mo_holeIn F (qm_u φ 0 0 0) x1 x2) fun y3 =>
      some (y3, (qm_u φ 0 0 0))
set_option maxRecDepth 100000 in
theorem mo_value_n (F d : Nat) (φ : qm_F) (x1 : Int32) (x2 : Int32) (r : (Int32 × qm_F)) (hd : 2 ≤ d) (hs : mo_value F φ x1 x2 = some r) : qm_Rn d 88 0 [.ref 0, .int x1, .int x2] [] (mw φ) (some (.int r.1), mw r.2) := by
  obtain ⟨d, rfl⟩ : ∃ e, d = e + 1 := ⟨d - 1, by omega⟩
  have hC := qC_88
  unfold mo_value at hs
  refine qr_s hC (n := 5) (pc' := 7) (ls' := [.ref 0, .int x1, .int x2]) (st' := [.int x1, .ref 0]) (h' := mw (qm_u φ 0 0 0)) rfl ?_
  obtain ⟨y1, hy, hs⟩ := qb1_s hs
  refine qr_c (j := 80) (as := [.ref 0, .int x1]) (rest := []) (v := some (.int y1)) (h1 := mw (qm_u φ 0 0 0)) hC rfl rfl qC_80 rfl rfl (mo_isGuess_n F d (qm_u φ 0 0 0) x1 _ (by omega) hy) ?_
  show qm_Rn (d + 1) 88 10 [.ref 0, .int x1, .int x2] [.int y1] (mw (qm_u φ 0 0 0)) _
  refine qr_eq1 (tgt := 30) hC rfl (by decide) rfl (fun hc => ?_) (fun hc => ?_)
  · rw [if_pos hc] at hs
    refine qr_s hC (n := 1) (pc' := 31) (ls' := [.ref 0, .int x1, .int x2]) (st' := [.int (-1)]) (h' := mw (qm_u φ 0 0 0)) rfl ?_
    have hs := Option.some.inj hs
    subst hs
    exact qr_r hC rfl rfl
  · rw [if_neg hc] at hs
    refine qr_s hC (n := 2) (pc' := 15) (ls' := [.ref 0, .int x1, .int x2]) (st' := [.int x2, .ref 0]) (h' := mw (qm_u φ 0 0 0)) rfl ?_
    obtain ⟨y2, hy, hs⟩ := qb1_s hs
    refine qr_c (j := 82) (as := [.ref 0, .int x2]) (rest := []) (v := some (.int y2)) (h1 := mw (qm_u φ 0 0 0)) hC rfl rfl qC_82 rfl rfl (mo_isHole_n F d (qm_u φ 0 0 0) x2 _ (by omega) hy) ?_
    show qm_Rn (d + 1) 88 18 [.ref 0, .int x1, .int x2] [.int y2] (mw (qm_u φ 0 0 0)) _
    refine qr_eq1 (tgt := 30) hC rfl (by decide) rfl (fun hc => ?_) (fun hc => ?_)
    · rw [if_pos hc] at hs
      refine qr_s hC (n := 1) (pc' := 31) (ls' := [.ref 0, .int x1, .int x2]) (st' := [.int (-1)]) (h' := mw (qm_u φ 0 0 0)) rfl ?_
      have hs := Option.some.inj hs
      subst hs
      exact qr_r hC rfl rfl
    · rw [if_neg hc] at hs
      refine qr_s hC (n := 3) (pc' := 24) (ls' := [.ref 0, .int x1, .int x2]) (st' := [.int x2, .int x1, .ref 0]) (h' := mw (qm_u φ 0 0 0)) rfl ?_
      obtain ⟨y3, hy, hs⟩ := qb1_s hs
      refine qr_c (j := 84) (as := [.ref 0, .int x1, .int x2]) (rest := []) (v := some (.int y3)) (h1 := mw (qm_u φ 0 0 0)) hC rfl rfl qC_84 rfl rfl (mo_holeIn_n F d (qm_u φ 0 0 0) x1 x2 _ (by omega) hy) ?_
      show qm_Rn (d + 1) 88 27 [.ref 0, .int x1, .int x2] [.int y3] (mw (qm_u φ 0 0 0)) _
      refine qr_s hC (n := 1) (pc' := 31) (ls' := [.ref 0, .int x1, .int x2]) (st' := [.int y3]) (h' := mw (qm_u φ 0 0 0)) rfl ?_
      have hs := Option.some.inj hs
      subst hs
      exact qr_r hC rfl rfl
/-- SketchFillerModel.cost(I)I -/
def mo_cost (F : Nat) (φ : qm_F) (x1 : Int32) : Option (Int32 × qm_F) :=
  qb1 (mo_isGuess F (qm_u φ 0 0 0) x1) fun y1 =>
  if y1 = 0 then
    some ((-1), (qm_u φ 0 0 0))
  else
    qb1 (mo_costOf F (qm_u φ 0 0 0) x1) fun y2 =>
    some (y2, (qm_u φ 0 0 0))
set_option maxRecDepth 100000 in
theorem mo_cost_n (F d : Nat) (φ : qm_F) (x1 : Int32) (r : (Int32 × qm_F)) (hd : 3 ≤ d) (hs : mo_cost F φ x1 = some r) : qm_Rn d 89 0 [.ref 0, .int x1] [] (mw φ) (some (.int r.1), mw r.2) := by
  obtain ⟨d, rfl⟩ : ∃ e, d = e + 1 := ⟨d - 1, by omega⟩
  have hC := qC_89
  unfold mo_cost at hs
  refine qr_s hC (n := 5) (pc' := 7) (ls' := [.ref 0, .int x1]) (st' := [.int x1, .ref 0]) (h' := mw (qm_u φ 0 0 0)) rfl ?_
  obtain ⟨y1, hy, hs⟩ := qb1_s hs
  refine qr_c (j := 80) (as := [.ref 0, .int x1]) (rest := []) (v := some (.int y1)) (h1 := mw (qm_u φ 0 0 0)) hC rfl rfl qC_80 rfl rfl (mo_isGuess_n F d (qm_u φ 0 0 0) x1 _ (by omega) hy) ?_
  show qm_Rn (d + 1) 89 10 [.ref 0, .int x1] [.int y1] (mw (qm_u φ 0 0 0)) _
  refine qr_eq1 (tgt := 21) hC rfl (by decide) rfl (fun hc => ?_) (fun hc => ?_)
  · rw [if_pos hc] at hs
    refine qr_s hC (n := 1) (pc' := 22) (ls' := [.ref 0, .int x1]) (st' := [.int (-1)]) (h' := mw (qm_u φ 0 0 0)) rfl ?_
    have hs := Option.some.inj hs
    subst hs
    exact qr_r hC rfl rfl
  · rw [if_neg hc] at hs
    refine qr_s hC (n := 2) (pc' := 15) (ls' := [.ref 0, .int x1]) (st' := [.int x1, .ref 0]) (h' := mw (qm_u φ 0 0 0)) rfl ?_
    obtain ⟨y2, hy, hs⟩ := qb1_s hs
    refine qr_c (j := 85) (as := [.ref 0, .int x1]) (rest := []) (v := some (.int y2)) (h1 := mw (qm_u φ 0 0 0)) hC rfl rfl qC_85 rfl rfl (mo_costOf_n F d (qm_u φ 0 0 0) x1 _ (by omega) hy) ?_
    show qm_Rn (d + 1) 89 18 [.ref 0, .int x1] [.int y2] (mw (qm_u φ 0 0 0)) _
    refine qr_s hC (n := 1) (pc' := 22) (ls' := [.ref 0, .int x1]) (st' := [.int y2]) (h' := mw (qm_u φ 0 0 0)) rfl ?_
    have hs := Option.some.inj hs
    subst hs
    exact qr_r hC rfl rfl
/-- SketchFillerModel.ranked(I)I -/
def mo_ranked_L14 (F : Nat) (φ : qm_F) (x1 : Int32) (s0 : Int32) : Option (Int32 × qm_F) :=
  if ¬ s0 = 0 then
    some (0, (qm_u φ 0 0 s0))
  else
    qg (qm_in x1 128) <|
    some (φ 16 x1.toNatClampNeg, (qm_u φ 0 0 s0))
def mo_ranked (F : Nat) (φ : qm_F) (x1 : Int32) : Option (Int32 × qm_F) :=
  qb1 (mo_isGuess F φ x1) fun y1 =>
  if y1 = 0 then
    mo_ranked_L14 F φ x1 1
  else
    mo_ranked_L14 F φ x1 0
set_option maxRecDepth 100000 in
theorem mo_ranked_L14_n (F d : Nat) (hd : 2 ≤ d) (φ : qm_F) (x1 : Int32) (s0 : Int32) (r : (Int32 × qm_F)) (hs : mo_ranked_L14 F φ x1 s0 = some r) : qm_Rn d 90 14 [.ref 0, .int x1] [.int s0, .ref 0] (mw φ) (some (.int r.1), mw r.2) := by
  obtain ⟨d, rfl⟩ : ∃ e, d = e + 1 := ⟨d - 1, by omega⟩
  have hC := qC_90
  unfold mo_ranked_L14 at hs
  refine qr_s hC (n := 3) (pc' := 21) (ls' := [.ref 0, .int x1]) (st' := [.int s0]) (h' := mw (qm_u φ 0 0 s0)) rfl ?_
  refine qr_ne1 (tgt := 33) hC rfl (by decide) rfl (fun hc => ?_) (fun hc => ?_)
  · rw [if_pos hc] at hs
    refine qr_s hC (n := 1) (pc' := 34) (ls' := [.ref 0, .int x1]) (st' := [.int 0]) (h' := mw (qm_u φ 0 0 s0)) rfl ?_
    have hs := Option.some.inj hs
    subst hs
    exact qr_r hC rfl rfl
  · rw [if_neg hc] at hs
    refine qr_s hC (n := 3) (pc' := 29) (ls' := [.ref 0, .int x1]) (st' := [.int x1, .ref 16]) (h' := mw (qm_u φ 0 0 s0)) rfl ?_
    obtain ⟨hq, hs⟩ := qg_s hs
    refine qr_ia (v := φ 16 x1.toNatClampNeg) hC rfl rfl hq rfl ?_
    refine qr_s hC (n := 1) (pc' := 34) (ls' := [.ref 0, .int x1]) (st' := [.int (φ 16 x1.toNatClampNeg)]) (h' := mw (qm_u φ 0 0 s0)) rfl ?_
    have hs := Option.some.inj hs
    subst hs
    exact qr_r hC rfl rfl
set_option maxRecDepth 100000 in
theorem mo_ranked_n (F d : Nat) (φ : qm_F) (x1 : Int32) (r : (Int32 × qm_F)) (hd : 2 ≤ d) (hs : mo_ranked F φ x1 = some r) : qm_Rn d 90 0 [.ref 0, .int x1] [] (mw φ) (some (.int r.1), mw r.2) := by
  obtain ⟨d, rfl⟩ : ∃ e, d = e + 1 := ⟨d - 1, by omega⟩
  have hC := qC_90
  unfold mo_ranked at hs
  refine qr_s hC (n := 3) (pc' := 3) (ls' := [.ref 0, .int x1]) (st' := [.int x1, .ref 0, .ref 0]) (h' := mw φ) rfl ?_
  obtain ⟨y1, hy, hs⟩ := qb1_s hs
  refine qr_c (j := 80) (as := [.ref 0, .int x1]) (rest := [.ref 0]) (v := some (.int y1)) (h1 := mw φ) hC rfl rfl qC_80 rfl rfl (mo_isGuess_n F d φ x1 _ (by omega) hy) ?_
  show qm_Rn (d + 1) 90 6 [.ref 0, .int x1] [.int y1, .ref 0] (mw φ) _
  refine qr_eq1 (tgt := 13) hC rfl (by decide) rfl (fun hc => ?_) (fun hc => ?_)
  · rw [if_pos hc] at hs
    refine qr_s hC (n := 1) (pc' := 14) (ls' := [.ref 0, .int x1]) (st' := [.int 1, .ref 0]) (h' := mw φ) rfl ?_
    exact mo_ranked_L14_n F (d + 1) (by omega) φ x1 1 _ hs
  · rw [if_neg hc] at hs
    refine qr_s hC (n := 2) (pc' := 14) (ls' := [.ref 0, .int x1]) (st' := [.int 0, .ref 0]) (h' := mw φ) rfl ?_
    exact mo_ranked_L14_n F (d + 1) (by omega) φ x1 0 _ hs
/-- SketchFillerModel.mask()I -/
def mo_mask (F : Nat) (φ : qm_F) : Option Int32 :=
  some ((1 <<< ((φ 2 0) &&& 31)) - 1)
set_option maxRecDepth 100000 in
theorem mo_mask_n (F d : Nat) (φ : qm_F) (r : Int32) (hd : 0 ≤ d) (hs : mo_mask F φ = some r) : qm_Rn d 91 0 [.ref 0] [] (mw φ) (some (.int r), mw φ) := by
  have hC := qC_91
  unfold mo_mask at hs
  refine qr_s hC (n := 4) (pc' := 6) (ls' := [.ref 0]) (st' := [.int 0, .ref 2, .int 1]) (h' := mw φ) rfl ?_
  refine qr_ia (v := φ 2 0) hC rfl rfl (by decide) rfl ?_
  refine qr_s hC (n := 3) (pc' := 10) (ls' := [.ref 0]) (st' := [.int ((1 <<< ((φ 2 0) &&& 31)) - 1)]) (h' := mw φ) rfl ?_
  have hs := Option.some.inj hs
  subst hs
  exact qr_r hC rfl rfl
/-- SketchFillerModel.push(I)V -/
def mo_push (F : Nat) (φ : qm_F) (x1 : Int32) : Option qm_F :=
  qb1 (mo_mask F φ) fun y1 =>
  qg (qm_in (φ 0 36) 64) <|
  some (qm_u (qm_u φ 18 ((φ 0 36).toNatClampNeg) (x1 &&& y1)) 0 36 ((φ 0 36) + 1))
set_option maxRecDepth 100000 in
theorem mo_push_n (F d : Nat) (φ : qm_F) (x1 : Int32) (r : qm_F) (hd : 1 ≤ d) (hs : mo_push F φ x1 = some r) : qm_Rn d 92 0 [.ref 0, .int x1] [] (mw φ) (none, mw r) := by
  obtain ⟨d, rfl⟩ : ∃ e, d = e + 1 := ⟨d - 1, by omega⟩
  have hC := qC_92
  unfold mo_push at hs
  refine qr_s hC (n := 6) (pc' := 10) (ls' := [.ref 0, .int x1]) (st' := [.ref 0, .int x1, .int (φ 0 36), .ref 18]) (h' := mw φ) rfl ?_
  obtain ⟨y1, hy, hs⟩ := qb1_s hs
  refine qr_c (j := 91) (as := [.ref 0]) (rest := [.int x1, .int (φ 0 36), .ref 18]) (v := some (.int y1)) (h1 := mw φ) hC rfl rfl qC_91 rfl rfl (mo_mask_n F d φ _ (by omega) hy) ?_
  show qm_Rn (d + 1) 92 13 [.ref 0, .int x1] [.int y1, .int x1, .int (φ 0 36), .ref 18] (mw φ) _
  refine qr_s hC (n := 1) (pc' := 14) (ls' := [.ref 0, .int x1]) (st' := [.int (x1 &&& y1), .int (φ 0 36), .ref 18]) (h' := mw φ) rfl ?_
  obtain ⟨hq, hs⟩ := qg_s hs
  refine qr_is (h' := mw (qm_u φ 18 ((φ 0 36).toNatClampNeg) (x1 &&& y1))) hC rfl rfl hq rfl ?_
  refine qr_s hC (n := 6) (pc' := 25) (ls' := [.ref 0, .int x1]) (st' := []) (h' := mw (qm_u (qm_u φ 18 ((φ 0 36).toNatClampNeg) (x1 &&& y1)) 0 36 ((φ 0 36) + 1))) rfl ?_
  have hs := Option.some.inj hs
  subst hs
  exact qr_r hC rfl rfl
/-- SketchFillerModel.pop()I -/
def mo_pop (F : Nat) (φ : qm_F) : Option (Int32 × qm_F) :=
  qg (qm_in ((φ 0 36) - 1) 64) <|
  some (φ 18 (((φ 0 36) - 1).toNatClampNeg), (qm_u φ 0 36 ((φ 0 36) - 1)))
set_option maxRecDepth 100000 in
theorem mo_pop_n (F d : Nat) (φ : qm_F) (r : (Int32 × qm_F)) (hd : 0 ≤ d) (hs : mo_pop F φ = some r) : qm_Rn d 93 0 [.ref 0] [] (mw φ) (some (.int r.1), mw r.2) := by
  have hC := qC_93
  unfold mo_pop at hs
  refine qr_s hC (n := 10) (pc' := 18) (ls' := [.ref 0]) (st' := [.int ((φ 0 36) - 1), .ref 18]) (h' := mw (qm_u φ 0 36 ((φ 0 36) - 1))) rfl ?_
  obtain ⟨hq, hs⟩ := qg_s hs
  refine qr_ia (v := φ 18 (((φ 0 36) - 1).toNatClampNeg)) hC rfl rfl hq rfl ?_
  have hs := Option.some.inj hs
  subst hs
  exact qr_r hC rfl rfl
/-- SketchFillerModel.signs(I)V -/
def mo_signs_L29 (F : Nat) (φ : qm_F) (s0 : Int32) : Option qm_F :=
  qb1 (mo_push F φ s0) fun φ1 =>
  some φ1
def mo_signs_L10 (F : Nat) (φ : qm_F) (x1 : Int32) : Option qm_F :=
  qb2 (mo_pop F φ) fun y1 φ1 =>
  if ¬ x1 = 2 then
    mo_signs_L29 F φ1 (y1 ^^^ (-1))
  else
    mo_signs_L29 F φ1 (-y1)
def mo_signs_L72 (F : Nat) (φ : qm_F) : Option qm_F :=
  qb1 (mo_push F φ 0) fun φ1 =>
  some φ1
def mo_signs_L195 (F : Nat) (φ : qm_F) (s0 : Int32) : Option qm_F :=
  qb1 (mo_push F φ s0) fun φ1 =>
  some φ1
def mo_signs_L210 (F : Nat) (φ : qm_F) (s0 : Int32) : Option qm_F :=
  qb1 (mo_push F φ s0) fun φ1 =>
  some φ1
def mo_signs_L78 (F : Nat) (φ : qm_F) (x1 : Int32) (x2 : Int32) (x3 : Int32) : Option qm_F :=
  if x1 = 38 then
    qb1 (mo_push F φ (x3 &&& x2)) fun φ1 =>
    some φ1
  else
  if x1 = 42 then
    qb1 (mo_push F φ (x3 * x2)) fun φ2 =>
    some φ2
  else
  if x1 = 43 then
    qb1 (mo_push F φ (x3 + x2)) fun φ3 =>
    some φ3
  else
  if x1 = 45 then
    qb1 (mo_push F φ (x3 - x2)) fun φ4 =>
    some φ4
  else
  if x1 = 47 then
    qg (!decide (x2 = 0)) <|
    qb1 (mo_push F φ (x3 / x2)) fun φ5 =>
    some φ5
  else
  if x1 = 60 then
    if x2 ≤ x3 then
      mo_signs_L210 F φ 0
    else
      mo_signs_L210 F φ 1
  else
  if x1 = 61 then
    if ¬ x3 = x2 then
      mo_signs_L195 F φ 0
    else
      mo_signs_L195 F φ 1
  else
  if x1 = 94 then
    qb1 (mo_push F φ (x3 ^^^ x2)) fun φ6 =>
    some φ6
  else
  if x1 = 124 then
    qb1 (mo_push F φ (x3 ||| x2)) fun φ7 =>
    some φ7
  else
  qg (!decide (x2 = 0)) <|
  qb1 (mo_push F φ (x3 - x3 / x2 * x2)) fun φ8 =>
  some φ8
def mo_signs_L55 (F : Nat) (φ : qm_F) (x1 : Int32) (x2 : Int32) (x3 : Int32) : Option qm_F :=
  if ¬ x2 = 0 then
    mo_signs_L78 F φ x1 x2 x3
  else
    if ¬ (φ 0 38) = (-1) then
      mo_signs_L72 F φ
    else
      mo_signs_L72 F (qm_u φ 0 38 3)
def mo_signs (F : Nat) (φ : qm_F) (x1 : Int32) : Option qm_F :=
  if x1 = 2 then
    mo_signs_L10 F φ x1
  else
    if ¬ x1 = 3 then
      qb2 (mo_pop F φ) fun y1 φ1 =>
      qb2 (mo_pop F φ1) fun y2 φ2 =>
      if x1 = 47 then
        mo_signs_L55 F φ2 x1 y1 y2
      else
        if ¬ x1 = 37 then
          mo_signs_L78 F φ2 x1 y1 y2
        else
          mo_signs_L55 F φ2 x1 y1 y2
    else
      mo_signs_L10 F φ x1
set_option maxRecDepth 100000 in
theorem mo_signs_L29_n (F d : Nat) (hd : 2 ≤ d) (φ : qm_F) (s0 : Int32) (r : qm_F) (hs : mo_signs_L29 F φ s0 = some r) : qm_Rn d 94 29 [.retAddr 0, .retAddr 0, .retAddr 0, .retAddr 0] [.int s0, .ref 0] (mw φ) (none, mw r) := by
  obtain ⟨d, rfl⟩ : ∃ e, d = e + 1 := ⟨d - 1, by omega⟩
  have hC := qC_94
  unfold mo_signs_L29 at hs
  obtain ⟨φ1, hy, hs⟩ := qb1_s hs
  refine qr_c (j := 92) (as := [.ref 0, .int s0]) (rest := []) (v := none) (h1 := mw φ1) hC rfl rfl qC_92 rfl rfl (mo_push_n F d φ s0 _ (by omega) hy) ?_
  show qm_Rn (d + 1) 94 32 [.retAddr 0, .retAddr 0, .retAddr 0, .retAddr 0] [] (mw φ1) _
  have hs := Option.some.inj hs
  subst hs
  exact qr_r hC rfl rfl
set_option maxRecDepth 100000 in
theorem mo_signs_L10_n (F d : Nat) (hd : 2 ≤ d) (φ : qm_F) (x1 : Int32) (r : qm_F) (hs : mo_signs_L10 F φ x1 = some r) : qm_Rn d 94 10 [.ref 0, .int x1, .retAddr 0, .retAddr 0] [] (mw φ) (none, mw r) := by
  obtain ⟨d, rfl⟩ : ∃ e, d = e + 1 := ⟨d - 1, by omega⟩
  have hC := qC_94
  unfold mo_signs_L10 at hs
  refine qr_s hC (n := 1) (pc' := 11) (ls' := [.ref 0, .int x1, .retAddr 0, .retAddr 0]) (st' := [.ref 0]) (h' := mw φ) rfl ?_
  obtain ⟨y1, φ1, hy, hs⟩ := qb2_s hs
  refine qr_c (j := 93) (as := [.ref 0]) (rest := []) (v := some (.int y1)) (h1 := mw φ1) hC rfl rfl qC_93 rfl rfl (mo_pop_n F d φ _ (by omega) hy) ?_
  show qm_Rn (d + 1) 94 14 [.ref 0, .int x1, .retAddr 0, .retAddr 0] [.int y1] (mw φ1) _
  refine qr_s hC (n := 4) (pc' := 18) (ls' := [.ref 0, .int x1, .int y1, .retAddr 0]) (st' := [.int 2, .int x1, .ref 0]) (h' := mw φ1) rfl ?_
  refine qr_ne2 (tgt := 26) hC rfl (by decide) rfl (fun hc => ?_) (fun hc => ?_)
  · rw [if_pos hc] at hs
    refine qr_s hC (n := 3) (pc' := 29) (ls' := [.ref 0, .int x1, .int y1, .retAddr 0]) (st' := [.int (y1 ^^^ (-1)), .ref 0]) (h' := mw φ1) rfl ?_
    exact qr_w (a := [.retAddr 0, .retAddr 0, .retAddr 0, .retAddr 0]) ⟨Or.inl rfl, Or.inl rfl, Or.inl rfl, Or.inr rfl, trivial⟩ (mo_signs_L29_n F (d + 1) (by omega) φ1 (y1 ^^^ (-1)) _ hs)
  · rw [if_neg hc] at hs
    refine qr_s hC (n := 3) (pc' := 29) (ls' := [.ref 0, .int x1, .int y1, .retAddr 0]) (st' := [.int (-y1), .ref 0]) (h' := mw φ1) rfl ?_
    exact qr_w (a := [.retAddr 0, .retAddr 0, .retAddr 0, .retAddr 0]) ⟨Or.inl rfl, Or.inl rfl, Or.inl rfl, Or.inr rfl, trivial⟩ (mo_signs_L29_n F (d + 1) (by omega) φ1 (-y1) _ hs)
set_option maxRecDepth 100000 in
theorem mo_signs_L72_n (F d : Nat) (hd : 2 ≤ d) (φ : qm_F) (r : qm_F) (hs : mo_signs_L72 F φ = some r) : qm_Rn d 94 72 [.ref 0, .retAddr 0, .retAddr 0, .retAddr 0] [] (mw φ) (none, mw r) := by
  obtain ⟨d, rfl⟩ : ∃ e, d = e + 1 := ⟨d - 1, by omega⟩
  have hC := qC_94
  unfold mo_signs_L72 at hs
  refine qr_s hC (n := 2) (pc' := 74) (ls' := [.ref 0, .retAddr 0, .retAddr 0, .retAddr 0]) (st' := [.int 0, .ref 0]) (h' := mw φ) rfl ?_
  obtain ⟨φ1, hy, hs⟩ := qb1_s hs
  refine qr_c (j := 92) (as := [.ref 0, .int 0]) (rest := []) (v := none) (h1 := mw φ1) hC rfl rfl qC_92 rfl rfl (mo_push_n F d φ 0 _ (by omega) hy) ?_
  show qm_Rn (d + 1) 94 77 [.ref 0, .retAddr 0, .retAddr 0, .retAddr 0] [] (mw φ1) _
  have hs := Option.some.inj hs
  subst hs
  exact qr_r hC rfl rfl
set_option maxRecDepth 100000 in
theorem mo_signs_L195_n (F d : Nat) (hd : 2 ≤ d) (φ : qm_F) (s0 : Int32) (r : qm_F) (hs : mo_signs_L195 F φ s0 = some r) : qm_Rn d 94 195 [.retAddr 0, .retAddr 0, .retAddr 0, .retAddr 0] [.int s0, .ref 0] (mw φ) (none, mw r) := by
  obtain ⟨d, rfl⟩ : ∃ e, d = e + 1 := ⟨d - 1, by omega⟩
  have hC := qC_94
  unfold mo_signs_L195 at hs
  obtain ⟨φ1, hy, hs⟩ := qb1_s hs
  refine qr_c (j := 92) (as := [.ref 0, .int s0]) (rest := []) (v := none) (h1 := mw φ1) hC rfl rfl qC_92 rfl rfl (mo_push_n F d φ s0 _ (by omega) hy) ?_
  show qm_Rn (d + 1) 94 198 [.retAddr 0, .retAddr 0, .retAddr 0, .retAddr 0] [] (mw φ1) _
  have hs := Option.some.inj hs
  subst hs
  exact qr_r hC rfl rfl
set_option maxRecDepth 100000 in
theorem mo_signs_L210_n (F d : Nat) (hd : 2 ≤ d) (φ : qm_F) (s0 : Int32) (r : qm_F) (hs : mo_signs_L210 F φ s0 = some r) : qm_Rn d 94 210 [.retAddr 0, .retAddr 0, .retAddr 0, .retAddr 0] [.int s0, .ref 0] (mw φ) (none, mw r) := by
  obtain ⟨d, rfl⟩ : ∃ e, d = e + 1 := ⟨d - 1, by omega⟩
  have hC := qC_94
  unfold mo_signs_L210 at hs
  obtain ⟨φ1, hy, hs⟩ := qb1_s hs
  refine qr_c (j := 92) (as := [.ref 0, .int s0]) (rest := []) (v := none) (h1 := mw φ1) hC rfl rfl qC_92 rfl rfl (mo_push_n F d φ s0 _ (by omega) hy) ?_
  show qm_Rn (d + 1) 94 213 [.retAddr 0, .retAddr 0, .retAddr 0, .retAddr 0] [] (mw φ1) _
  have hs := Option.some.inj hs
  subst hs
  exact qr_r hC rfl rfl
set_option maxRecDepth 100000 in
theorem mo_signs_L78_n (F d : Nat) (hd : 2 ≤ d) (φ : qm_F) (x1 : Int32) (x2 : Int32) (x3 : Int32) (r : qm_F) (hs : mo_signs_L78 F φ x1 x2 x3 = some r) : qm_Rn d 94 78 [.ref 0, .int x1, .int x2, .int x3] [] (mw φ) (none, mw r) := by
  obtain ⟨d, rfl⟩ : ∃ e, d = e + 1 := ⟨d - 1, by omega⟩
  have hC := qC_94
  unfold mo_signs_L78 at hs
  refine qr_s hC (n := 1) (pc' := 79) (ls' := [.ref 0, .int x1, .int x2, .int x3]) (st' := [.int x1]) (h' := mw φ) rfl ?_
  by_cases q0 : x1 = 38
  · rw [if_pos q0] at hs
    refine qr_sw hC (tgt := 176) rfl q0 rfl ?_
    refine qr_s hC (n := 4) (pc' := 180) (ls' := [.ref 0, .int x1, .int x2, .int x3]) (st' := [.int (x3 &&& x2), .ref 0]) (h' := mw φ) rfl ?_
    obtain ⟨φ1, hy, hs⟩ := qb1_s hs
    refine qr_c (j := 92) (as := [.ref 0, .int (x3 &&& x2)]) (rest := []) (v := none) (h1 := mw φ1) hC rfl rfl qC_92 rfl rfl (mo_push_n F d φ (x3 &&& x2) _ (by omega) hy) ?_
    show qm_Rn (d + 1) 94 183 [.ref 0, .int x1, .int x2, .int x3] [] (mw φ1) _
    have hs := Option.some.inj hs
    subst hs
    exact qr_r hC rfl rfl
  · rw [if_neg q0] at hs
    by_cases q1 : x1 = 42
    · rw [if_pos q1] at hs
      refine qr_sw hC (tgt := 230) rfl q1 rfl ?_
      refine qr_s hC (n := 4) (pc' := 234) (ls' := [.ref 0, .int x1, .int x2, .int x3]) (st' := [.int (x3 * x2), .ref 0]) (h' := mw φ) rfl ?_
      obtain ⟨φ2, hy, hs⟩ := qb1_s hs
      refine qr_c (j := 92) (as := [.ref 0, .int (x3 * x2)]) (rest := []) (v := none) (h1 := mw φ2) hC rfl rfl qC_92 rfl rfl (mo_push_n F d φ (x3 * x2) _ (by omega) hy) ?_
      show qm_Rn (d + 1) 94 237 [.ref 0, .int x1, .int x2, .int x3] [] (mw φ2) _
      have hs := Option.some.inj hs
      subst hs
      exact qr_r hC rfl rfl
    · rw [if_neg q1] at hs
      by_cases q2 : x1 = 43
      · rw [if_pos q2] at hs
        refine qr_sw hC (tgt := 214) rfl q2 rfl ?_
        refine qr_s hC (n := 4) (pc' := 218) (ls' := [.ref 0, .int x1, .int x2, .int x3]) (st' := [.int (x3 + x2), .ref 0]) (h' := mw φ) rfl ?_
        obtain ⟨φ3, hy, hs⟩ := qb1_s hs
        refine qr_c (j := 92) (as := [.ref 0, .int (x3 + x2)]) (rest := []) (v := none) (h1 := mw φ3) hC rfl rfl qC_92 rfl rfl (mo_push_n F d φ (x3 + x2) _ (by omega) hy) ?_
        show qm_Rn (d + 1) 94 221 [.ref 0, .int x1, .int x2, .int x3] [] (mw φ3) _
        have hs := Option.some.inj hs
        subst hs
        exact qr_r hC rfl rfl
      · rw [if_neg q2] at hs
        by_cases q3 : x1 = 45
        · rw [if_pos q3] at hs
          refine qr_sw hC (tgt := 222) rfl q3 rfl ?_
          refine qr_s hC (n := 4) (pc' := 226) (ls' := [.ref 0, .int x1, .int x2, .int x3]) (st' := [.int (x3 - x2), .ref 0]) (h' := mw φ) rfl ?_
          obtain ⟨φ4, hy, hs⟩ := qb1_s hs
          refine qr_c (j := 92) (as := [.ref 0, .int (x3 - x2)]) (rest := []) (v := none) (h1 := mw φ4) hC rfl rfl qC_92 rfl rfl (mo_push_n F d φ (x3 - x2) _ (by omega) hy) ?_
          show qm_Rn (d + 1) 94 229 [.ref 0, .int x1, .int x2, .int x3] [] (mw φ4) _
          have hs := Option.some.inj hs
          subst hs
          exact qr_r hC rfl rfl
        · rw [if_neg q3] at hs
          by_cases q4 : x1 = 47
          · rw [if_pos q4] at hs
            refine qr_sw hC (tgt := 238) rfl q4 rfl ?_
            refine qr_s hC (n := 3) (pc' := 241) (ls' := [.ref 0, .int x1, .int x2, .int x3]) (st' := [.int x2, .int x3, .ref 0]) (h' := mw φ) rfl ?_
            obtain ⟨hq, hs⟩ := qg_s hs
            refine qr_dv hC rfl hq ?_
            obtain ⟨φ5, hy, hs⟩ := qb1_s hs
            refine qr_c (j := 92) (as := [.ref 0, .int (x3 / x2)]) (rest := []) (v := none) (h1 := mw φ5) hC rfl rfl qC_92 rfl rfl (mo_push_n F d φ (x3 / x2) _ (by omega) hy) ?_
            show qm_Rn (d + 1) 94 245 [.ref 0, .int x1, .int x2, .int x3] [] (mw φ5) _
            have hs := Option.some.inj hs
            subst hs
            exact qr_r hC rfl rfl
          · rw [if_neg q4] at hs
            by_cases q5 : x1 = 60
            · rw [if_pos q5] at hs
              refine qr_sw hC (tgt := 199) rfl q5 rfl ?_
              refine qr_s hC (n := 3) (pc' := 202) (ls' := [.ref 0, .int x1, .int x2, .int x3]) (st' := [.int x2, .int x3, .ref 0]) (h' := mw φ) rfl ?_
              refine qr_ge2 (tgt := 209) hC rfl (by decide) rfl (fun hc => ?_) (fun hc => ?_)
              · rw [if_pos hc] at hs
                refine qr_s hC (n := 1) (pc' := 210) (ls' := [.ref 0, .int x1, .int x2, .int x3]) (st' := [.int 0, .ref 0]) (h' := mw φ) rfl ?_
                exact qr_w (a := [.retAddr 0, .retAddr 0, .retAddr 0, .retAddr 0]) ⟨Or.inl rfl, Or.inl rfl, Or.inl rfl, Or.inl rfl, trivial⟩ (mo_signs_L210_n F (d + 1) (by omega) φ 0 _ hs)
              · rw [if_neg hc] at hs
                refine qr_s hC (n := 2) (pc' := 210) (ls' := [.ref 0, .int x1, .int x2, .int x3]) (st' := [.int 1, .ref 0]) (h' := mw φ) rfl ?_
                exact qr_w (a := [.retAddr 0, .retAddr 0, .retAddr 0, .retAddr 0]) ⟨Or.inl rfl, Or.inl rfl, Or.inl rfl, Or.inl rfl, trivial⟩ (mo_signs_L210_n F (d + 1) (by omega) φ 1 _ hs)
            · rw [if_neg q5] at hs
              by_cases q6 : x1 = 61
              · rw [if_pos q6] at hs
                refine qr_sw hC (tgt := 184) rfl q6 rfl ?_
                refine qr_s hC (n := 3) (pc' := 187) (ls' := [.ref 0, .int x1, .int x2, .int x3]) (st' := [.int x2, .int x3, .ref 0]) (h' := mw φ) rfl ?_
                refine qr_ne2 (tgt := 194) hC rfl (by decide) rfl (fun hc => ?_) (fun hc => ?_)
                · rw [if_pos hc] at hs
                  refine qr_s hC (n := 1) (pc' := 195) (ls' := [.ref 0, .int x1, .int x2, .int x3]) (st' := [.int 0, .ref 0]) (h' := mw φ) rfl ?_
                  exact qr_w (a := [.retAddr 0, .retAddr 0, .retAddr 0, .retAddr 0]) ⟨Or.inl rfl, Or.inl rfl, Or.inl rfl, Or.inl rfl, trivial⟩ (mo_signs_L195_n F (d + 1) (by omega) φ 0 _ hs)
                · rw [if_neg hc] at hs
                  refine qr_s hC (n := 2) (pc' := 195) (ls' := [.ref 0, .int x1, .int x2, .int x3]) (st' := [.int 1, .ref 0]) (h' := mw φ) rfl ?_
                  exact qr_w (a := [.retAddr 0, .retAddr 0, .retAddr 0, .retAddr 0]) ⟨Or.inl rfl, Or.inl rfl, Or.inl rfl, Or.inl rfl, trivial⟩ (mo_signs_L195_n F (d + 1) (by omega) φ 1 _ hs)
              · rw [if_neg q6] at hs
                by_cases q7 : x1 = 94
                · rw [if_pos q7] at hs
                  refine qr_sw hC (tgt := 168) rfl q7 rfl ?_
                  refine qr_s hC (n := 4) (pc' := 172) (ls' := [.ref 0, .int x1, .int x2, .int x3]) (st' := [.int (x3 ^^^ x2), .ref 0]) (h' := mw φ) rfl ?_
                  obtain ⟨φ6, hy, hs⟩ := qb1_s hs
                  refine qr_c (j := 92) (as := [.ref 0, .int (x3 ^^^ x2)]) (rest := []) (v := none) (h1 := mw φ6) hC rfl rfl qC_92 rfl rfl (mo_push_n F d φ (x3 ^^^ x2) _ (by omega) hy) ?_
                  show qm_Rn (d + 1) 94 175 [.ref 0, .int x1, .int x2, .int x3] [] (mw φ6) _
                  have hs := Option.some.inj hs
                  subst hs
                  exact qr_r hC rfl rfl
                · rw [if_neg q7] at hs
                  by_cases q8 : x1 = 124
                  · rw [if_pos q8] at hs
                    refine qr_sw hC (tgt := 160) rfl q8 rfl ?_
                    refine qr_s hC (n := 4) (pc' := 164) (ls' := [.ref 0, .int x1, .int x2, .int x3]) (st' := [.int (x3 ||| x2), .ref 0]) (h' := mw φ) rfl ?_
                    obtain ⟨φ7, hy, hs⟩ := qb1_s hs
                    refine qr_c (j := 92) (as := [.ref 0, .int (x3 ||| x2)]) (rest := []) (v := none) (h1 := mw φ7) hC rfl rfl qC_92 rfl rfl (mo_push_n F d φ (x3 ||| x2) _ (by omega) hy) ?_
                    show qm_Rn (d + 1) 94 167 [.ref 0, .int x1, .int x2, .int x3] [] (mw φ7) _
                    have hs := Option.some.inj hs
                    subst hs
                    exact qr_r hC rfl rfl
                  · rw [if_neg q8] at hs
                    have z0 : Int32.toInt x1 ≠ 38 := fun z => q0 (Int32.toInt_inj.mp (z.trans (by decide)))
                    have z1 : Int32.toInt x1 ≠ 42 := fun z => q1 (Int32.toInt_inj.mp (z.trans (by decide)))
                    have z2 : Int32.toInt x1 ≠ 43 := fun z => q2 (Int32.toInt_inj.mp (z.trans (by decide)))
                    have z3 : Int32.toInt x1 ≠ 45 := fun z => q3 (Int32.toInt_inj.mp (z.trans (by decide)))
                    have z4 : Int32.toInt x1 ≠ 47 := fun z => q4 (Int32.toInt_inj.mp (z.trans (by decide)))
                    have z5 : Int32.toInt x1 ≠ 60 := fun z => q5 (Int32.toInt_inj.mp (z.trans (by decide)))
                    have z6 : Int32.toInt x1 ≠ 61 := fun z => q6 (Int32.toInt_inj.mp (z.trans (by decide)))
                    have z7 : Int32.toInt x1 ≠ 94 := fun z => q7 (Int32.toInt_inj.mp (z.trans (by decide)))
                    have z8 : Int32.toInt x1 ≠ 124 := fun z => q8 (Int32.toInt_inj.mp (z.trans (by decide)))
                    refine qr_lD (off := 167) (tgt := 246) hC rfl (by decide) ?_ (by decide) rfl ?_
                    · simp only [Op.lookupswitch.offset]
                      rw [if_neg (Ne.symm z0)]
                      rw [if_neg (Ne.symm z1)]
                      rw [if_neg (Ne.symm z2)]
                      rw [if_neg (Ne.symm z3)]
                      rw [if_neg (Ne.symm z4)]
                      rw [if_neg (Ne.symm z5)]
                      rw [if_neg (Ne.symm z6)]
                      rw [if_neg (Ne.symm z7)]
                      rw [if_neg (Ne.symm z8)]
                    refine qr_s hC (n := 3) (pc' := 249) (ls' := [.ref 0, .int x1, .int x2, .int x3]) (st' := [.int x2, .int x3, .ref 0]) (h' := mw φ) rfl ?_
                    obtain ⟨hq, hs⟩ := qg_s hs
                    refine qr_rm hC rfl hq ?_
                    obtain ⟨φ8, hy, hs⟩ := qb1_s hs
                    refine qr_c (j := 92) (as := [.ref 0, .int (x3 - x3 / x2 * x2)]) (rest := []) (v := none) (h1 := mw φ8) hC rfl rfl qC_92 rfl rfl (mo_push_n F d φ (x3 - x3 / x2 * x2) _ (by omega) hy) ?_
                    show qm_Rn (d + 1) 94 253 [.ref 0, .int x1, .int x2, .int x3] [] (mw φ8) _
                    have hs := Option.some.inj hs
                    subst hs
                    exact qr_r hC rfl rfl
set_option maxRecDepth 100000 in
theorem mo_signs_L55_n (F d : Nat) (hd : 2 ≤ d) (φ : qm_F) (x1 : Int32) (x2 : Int32) (x3 : Int32) (r : qm_F) (hs : mo_signs_L55 F φ x1 x2 x3 = some r) : qm_Rn d 94 55 [.ref 0, .int x1, .int x2, .int x3] [] (mw φ) (none, mw r) := by
  obtain ⟨d, rfl⟩ : ∃ e, d = e + 1 := ⟨d - 1, by omega⟩
  have hC := qC_94
  unfold mo_signs_L55 at hs
  refine qr_s hC (n := 1) (pc' := 56) (ls' := [.ref 0, .int x1, .int x2, .int x3]) (st' := [.int x2]) (h' := mw φ) rfl ?_
  refine qr_ne1 (tgt := 78) hC rfl (by decide) rfl (fun hc => ?_) (fun hc => ?_)
  · rw [if_pos hc] at hs
    exact mo_signs_L78_n F (d + 1) (by omega) φ x1 x2 x3 _ hs
  · rw [if_neg hc] at hs
    refine qr_s hC (n := 3) (pc' := 64) (ls' := [.ref 0, .int x1, .int x2, .int x3]) (st' := [.int (-1), .int (φ 0 38)]) (h' := mw φ) rfl ?_
    refine qr_ne2 (tgt := 72) hC rfl (by decide) rfl (fun hc => ?_) (fun hc => ?_)
    · rw [if_pos hc] at hs
      exact qr_w (a := [.ref 0, .retAddr 0, .retAddr 0, .retAddr 0]) ⟨Or.inr rfl, Or.inl rfl, Or.inl rfl, Or.inl rfl, trivial⟩ (mo_signs_L72_n F (d + 1) (by omega) φ _ hs)
    · rw [if_neg hc] at hs
      refine qr_s hC (n := 3) (pc' := 72) (ls' := [.ref 0, .int x1, .int x2, .int x3]) (st' := []) (h' := mw (qm_u φ 0 38 3)) rfl ?_
      exact qr_w (a := [.ref 0, .retAddr 0, .retAddr 0, .retAddr 0]) ⟨Or.inr rfl, Or.inl rfl, Or.inl rfl, Or.inl rfl, trivial⟩ (mo_signs_L72_n F (d + 1) (by omega) (qm_u φ 0 38 3) _ hs)
set_option maxRecDepth 100000 in
theorem mo_signs_n (F d : Nat) (φ : qm_F) (x1 : Int32) (r : qm_F) (hd : 2 ≤ d) (hs : mo_signs F φ x1 = some r) : qm_Rn d 94 0 [.ref 0, .int x1, .retAddr 0, .retAddr 0] [] (mw φ) (none, mw r) := by
  obtain ⟨d, rfl⟩ : ∃ e, d = e + 1 := ⟨d - 1, by omega⟩
  have hC := qC_94
  unfold mo_signs at hs
  refine qr_s hC (n := 2) (pc' := 2) (ls' := [.ref 0, .int x1, .retAddr 0, .retAddr 0]) (st' := [.int 2, .int x1]) (h' := mw φ) rfl ?_
  refine qr_eq2 (tgt := 10) hC rfl (by decide) rfl (fun hc => ?_) (fun hc => ?_)
  · rw [if_pos hc] at hs
    exact mo_signs_L10_n F (d + 1) (by omega) φ x1 _ hs
  · rw [if_neg hc] at hs
    refine qr_s hC (n := 2) (pc' := 7) (ls' := [.ref 0, .int x1, .retAddr 0, .retAddr 0]) (st' := [.int 3, .int x1]) (h' := mw φ) rfl ?_
    refine qr_ne2 (tgt := 33) hC rfl (by decide) rfl (fun hc => ?_) (fun hc => ?_)
    · rw [if_pos hc] at hs
      refine qr_s hC (n := 1) (pc' := 34) (ls' := [.ref 0, .int x1, .retAddr 0, .retAddr 0]) (st' := [.ref 0]) (h' := mw φ) rfl ?_
      obtain ⟨y1, φ1, hy, hs⟩ := qb2_s hs
      refine qr_c (j := 93) (as := [.ref 0]) (rest := []) (v := some (.int y1)) (h1 := mw φ1) hC rfl rfl qC_93 rfl rfl (mo_pop_n F d φ _ (by omega) hy) ?_
      show qm_Rn (d + 1) 94 37 [.ref 0, .int x1, .retAddr 0, .retAddr 0] [.int y1] (mw φ1) _
      refine qr_s hC (n := 2) (pc' := 39) (ls' := [.ref 0, .int x1, .int y1, .retAddr 0]) (st' := [.ref 0]) (h' := mw φ1) rfl ?_
      obtain ⟨y2, φ2, hy, hs⟩ := qb2_s hs
      refine qr_c (j := 93) (as := [.ref 0]) (rest := []) (v := some (.int y2)) (h1 := mw φ2) hC rfl rfl qC_93 rfl rfl (mo_pop_n F d φ1 _ (by omega) hy) ?_
      show qm_Rn (d + 1) 94 42 [.ref 0, .int x1, .int y1, .retAddr 0] [.int y2] (mw φ2) _
      refine qr_s hC (n := 3) (pc' := 46) (ls' := [.ref 0, .int x1, .int y1, .int y2]) (st' := [.int 47, .int x1]) (h' := mw φ2) rfl ?_
      refine qr_eq2 (tgt := 55) hC rfl (by decide) rfl (fun hc => ?_) (fun hc => ?_)
      · rw [if_pos hc] at hs
        exact mo_signs_L55_n F (d + 1) (by omega) φ2 x1 y1 y2 _ hs
      · rw [if_neg hc] at hs
        refine qr_s hC (n := 2) (pc' := 52) (ls' := [.ref 0, .int x1, .int y1, .int y2]) (st' := [.int 37, .int x1]) (h' := mw φ2) rfl ?_
        refine qr_ne2 (tgt := 78) hC rfl (by decide) rfl (fun hc => ?_) (fun hc => ?_)
        · rw [if_pos hc] at hs
          exact mo_signs_L78_n F (d + 1) (by omega) φ2 x1 y1 y2 _ hs
        · rw [if_neg hc] at hs
          exact mo_signs_L55_n F (d + 1) (by omega) φ2 x1 y1 y2 _ hs
    · rw [if_neg hc] at hs
      exact mo_signs_L10_n F (d + 1) (by omega) φ x1 _ hs
/-- SketchFillerModel.worked(II)I -/
def mo_worked_L86 (F : Nat) (φ : qm_F) : Option (Int32 × qm_F) :=
  if ¬ (φ 0 38) = (-1) then
    some (0, φ)
  else
    qb2 (mo_pop F φ) fun y1 φ1 =>
    some (y1, φ1)
def mo_worked_L7 (F : Nat) : Nat → qm_F → Int32 → Int32 → Option (Int32 × qm_F)
  | 0, _, _, _ => none
  | n + 1, φ, x2, x3 =>
    if x2 ≤ x3 then
      mo_worked_L86 F φ
    else
      if ¬ (φ 0 38) = (-1) then
        mo_worked_L86 F φ
      else
        qg (qm_in x3 1600) <|
        if ¬ (φ 7 x3.toNatClampNeg) = 0 then
          qg (qm_in x3 1600) <|
          if ¬ (φ 7 x3.toNatClampNeg) = 1 then
            qg (qm_in x3 1600) <|
            qb1 (mo_signs F φ (φ 7 x3.toNatClampNeg)) fun φ1 =>
            mo_worked_L7 F n φ1 x2 (x3 + 1)
          else
            qg (qm_in x3 1600) <|
            qg (qm_in (φ 8 x3.toNatClampNeg) 15) <|
            qb1 (mo_push F φ (φ 17 ((φ 8 x3.toNatClampNeg).toNatClampNeg))) fun φ2 =>
            mo_worked_L7 F n φ2 x2 (x3 + 1)
        else
          qg (qm_in x3 1600) <|
          qb1 (mo_push F φ (φ 8 x3.toNatClampNeg)) fun φ3 =>
          mo_worked_L7 F n φ3 x2 (x3 + 1)
def mo_worked (F : Nat) (φ : qm_F) (x1 : Int32) (x2 : Int32) : Option (Int32 × qm_F) :=
  mo_worked_L7 F F (qm_u φ 0 36 0) x2 x1
set_option maxRecDepth 100000 in
theorem mo_worked_L86_n (F d : Nat) (hd : 3 ≤ d) (φ : qm_F) (r : (Int32 × qm_F)) (hs : mo_worked_L86 F φ = some r) : qm_Rn d 95 86 [.ref 0, .retAddr 0, .retAddr 0, .retAddr 0] [] (mw φ) (some (.int r.1), mw r.2) := by
  obtain ⟨d, rfl⟩ : ∃ e, d = e + 1 := ⟨d - 1, by omega⟩
  have hC := qC_95
  unfold mo_worked_L86 at hs
  refine qr_s hC (n := 3) (pc' := 91) (ls' := [.ref 0, .retAddr 0, .retAddr 0, .retAddr 0]) (st' := [.int (-1), .int (φ 0 38)]) (h' := mw φ) rfl ?_
  refine qr_ne2 (tgt := 101) hC rfl (by decide) rfl (fun hc => ?_) (fun hc => ?_)
  · rw [if_pos hc] at hs
    refine qr_s hC (n := 1) (pc' := 102) (ls' := [.ref 0, .retAddr 0, .retAddr 0, .retAddr 0]) (st' := [.int 0]) (h' := mw φ) rfl ?_
    have hs := Option.some.inj hs
    subst hs
    exact qr_r hC rfl rfl
  · rw [if_neg hc] at hs
    refine qr_s hC (n := 1) (pc' := 95) (ls' := [.ref 0, .retAddr 0, .retAddr 0, .retAddr 0]) (st' := [.ref 0]) (h' := mw φ) rfl ?_
    obtain ⟨y1, φ1, hy, hs⟩ := qb2_s hs
    refine qr_c (j := 93) (as := [.ref 0]) (rest := []) (v := some (.int y1)) (h1 := mw φ1) hC rfl rfl qC_93 rfl rfl (mo_pop_n F d φ _ (by omega) hy) ?_
    show qm_Rn (d + 1) 95 98 [.ref 0, .retAddr 0, .retAddr 0, .retAddr 0] [.int y1] (mw φ1) _
    refine qr_s hC (n := 1) (pc' := 102) (ls' := [.ref 0, .retAddr 0, .retAddr 0, .retAddr 0]) (st' := [.int y1]) (h' := mw φ1) rfl ?_
    have hs := Option.some.inj hs
    subst hs
    exact qr_r hC rfl rfl
set_option maxRecDepth 100000 in
theorem mo_worked_L7_n (F d : Nat) (hd : 3 ≤ d) : ∀ (n : Nat) (φ : qm_F) (x2 : Int32) (x3 : Int32) (r : (Int32 × qm_F)), mo_worked_L7 F n φ x2 x3 = some r → qm_Rn d 95 7 [.ref 0, .retAddr 0, .int x2, .int x3] [] (mw φ) (some (.int r.1), mw r.2) := by
  obtain ⟨d, rfl⟩ : ∃ e, d = e + 1 := ⟨d - 1, by omega⟩
  have hC := qC_95
  intro n
  induction n with
  | zero => intro φ x2 x3 r hs; simp [mo_worked_L7] at hs
  | succ n ih =>
    intro φ x2 x3 r hs
    rw [mo_worked_L7] at hs
    refine qr_s hC (n := 2) (pc' := 9) (ls' := [.ref 0, .retAddr 0, .int x2, .int x3]) (st' := [.int x2, .int x3]) (h' := mw φ) rfl ?_
    refine qr_ge2 (tgt := 86) hC rfl (by decide) rfl (fun hc => ?_) (fun hc => ?_)
    · rw [if_pos hc] at hs
      exact qr_w (a := [.ref 0, .retAddr 0, .retAddr 0, .retAddr 0]) ⟨Or.inr rfl, Or.inr rfl, Or.inl rfl, Or.inl rfl, trivial⟩ (mo_worked_L86_n F (d + 1) (by omega) φ _ hs)
    · rw [if_neg hc] at hs
      refine qr_s hC (n := 3) (pc' := 17) (ls' := [.ref 0, .retAddr 0, .int x2, .int x3]) (st' := [.int (-1), .int (φ 0 38)]) (h' := mw φ) rfl ?_
      refine qr_ne2 (tgt := 86) hC rfl (by decide) rfl (fun hc => ?_) (fun hc => ?_)
      · rw [if_pos hc] at hs
        exact qr_w (a := [.ref 0, .retAddr 0, .retAddr 0, .retAddr 0]) ⟨Or.inr rfl, Or.inr rfl, Or.inl rfl, Or.inl rfl, trivial⟩ (mo_worked_L86_n F (d + 1) (by omega) φ _ hs)
      · rw [if_neg hc] at hs
        refine qr_s hC (n := 3) (pc' := 25) (ls' := [.ref 0, .retAddr 0, .int x2, .int x3]) (st' := [.int x3, .ref 7]) (h' := mw φ) rfl ?_
        obtain ⟨hq, hs⟩ := qg_s hs
        refine qr_ia (v := φ 7 x3.toNatClampNeg) hC rfl rfl hq rfl ?_
        refine qr_ne1 (tgt := 42) hC rfl (by decide) rfl (fun hc => ?_) (fun hc => ?_)
        · rw [if_pos hc] at hs
          refine qr_s hC (n := 3) (pc' := 47) (ls' := [.ref 0, .retAddr 0, .int x2, .int x3]) (st' := [.int x3, .ref 7]) (h' := mw φ) rfl ?_
          obtain ⟨hq, hs⟩ := qg_s hs
          refine qr_ia (v := φ 7 x3.toNatClampNeg) hC rfl rfl hq rfl ?_
          refine qr_s hC (n := 1) (pc' := 49) (ls' := [.ref 0, .retAddr 0, .int x2, .int x3]) (st' := [.int 1, .int (φ 7 x3.toNatClampNeg)]) (h' := mw φ) rfl ?_
          refine qr_ne2 (tgt := 70) hC rfl (by decide) rfl (fun hc => ?_) (fun hc => ?_)
          · rw [if_pos hc] at hs
            refine qr_s hC (n := 4) (pc' := 76) (ls' := [.ref 0, .retAddr 0, .int x2, .int x3]) (st' := [.int x3, .ref 7, .ref 0]) (h' := mw φ) rfl ?_
            obtain ⟨hq, hs⟩ := qg_s hs
            refine qr_ia (v := φ 7 x3.toNatClampNeg) hC rfl rfl hq rfl ?_
            obtain ⟨φ1, hy, hs⟩ := qb1_s hs
            refine qr_c (j := 94) (as := [.ref 0, .int (φ 7 x3.toNatClampNeg)]) (rest := []) (v := none) (h1 := mw φ1) hC rfl rfl qC_94 rfl rfl (mo_signs_n F d φ (φ 7 x3.toNatClampNeg) _ (by omega) hy) ?_
            show qm_Rn (d + 1) 95 80 [.ref 0, .retAddr 0, .int x2, .int x3] [] (mw φ1) _
            refine qr_s hC (n := 2) (pc' := 7) (ls' := [.ref 0, .retAddr 0, .int x2, .int (x3 + 1)]) (st' := []) (h' := mw φ1) rfl ?_
            exact ih φ1 x2 (x3 + 1) _ hs
          · rw [if_neg hc] at hs
            refine qr_s hC (n := 6) (pc' := 62) (ls' := [.ref 0, .retAddr 0, .int x2, .int x3]) (st' := [.int x3, .ref 8, .ref 17, .ref 0]) (h' := mw φ) rfl ?_
            obtain ⟨hq, hs⟩ := qg_s hs
            refine qr_ia (v := φ 8 x3.toNatClampNeg) hC rfl rfl hq rfl ?_
            obtain ⟨hq, hs⟩ := qg_s hs
            refine qr_ia (v := φ 17 ((φ 8 x3.toNatClampNeg).toNatClampNeg)) hC rfl rfl hq rfl ?_
            obtain ⟨φ2, hy, hs⟩ := qb1_s hs
            refine qr_c (j := 92) (as := [.ref 0, .int (φ 17 ((φ 8 x3.toNatClampNeg).toNatClampNeg))]) (rest := []) (v := none) (h1 := mw φ2) hC rfl rfl qC_92 rfl rfl (mo_push_n F d φ (φ 17 ((φ 8 x3.toNatClampNeg).toNatClampNeg)) _ (by omega) hy) ?_
            show qm_Rn (d + 1) 95 67 [.ref 0, .retAddr 0, .int x2, .int x3] [] (mw φ2) _
            refine qr_s hC (n := 3) (pc' := 7) (ls' := [.ref 0, .retAddr 0, .int x2, .int (x3 + 1)]) (st' := []) (h' := mw φ2) rfl ?_
            exact ih φ2 x2 (x3 + 1) _ hs
        · rw [if_neg hc] at hs
          refine qr_s hC (n := 4) (pc' := 35) (ls' := [.ref 0, .retAddr 0, .int x2, .int x3]) (st' := [.int x3, .ref 8, .ref 0]) (h' := mw φ) rfl ?_
          obtain ⟨hq, hs⟩ := qg_s hs
          refine qr_ia (v := φ 8 x3.toNatClampNeg) hC rfl rfl hq rfl ?_
          obtain ⟨φ3, hy, hs⟩ := qb1_s hs
          refine qr_c (j := 92) (as := [.ref 0, .int (φ 8 x3.toNatClampNeg)]) (rest := []) (v := none) (h1 := mw φ3) hC rfl rfl qC_92 rfl rfl (mo_push_n F d φ (φ 8 x3.toNatClampNeg) _ (by omega) hy) ?_
          show qm_Rn (d + 1) 95 39 [.ref 0, .retAddr 0, .int x2, .int x3] [] (mw φ3) _
          refine qr_s hC (n := 3) (pc' := 7) (ls' := [.ref 0, .retAddr 0, .int x2, .int (x3 + 1)]) (st' := []) (h' := mw φ3) rfl ?_
          exact ih φ3 x2 (x3 + 1) _ hs
set_option maxRecDepth 100000 in
theorem mo_worked_n (F d : Nat) (φ : qm_F) (x1 : Int32) (x2 : Int32) (r : (Int32 × qm_F)) (hd : 3 ≤ d) (hs : mo_worked F φ x1 x2 = some r) : qm_Rn d 95 0 [.ref 0, .int x1, .int x2, .retAddr 0] [] (mw φ) (some (.int r.1), mw r.2) := by
  obtain ⟨d, rfl⟩ : ∃ e, d = e + 1 := ⟨d - 1, by omega⟩
  have hC := qC_95
  unfold mo_worked at hs
  refine qr_s hC (n := 5) (pc' := 7) (ls' := [.ref 0, .int x1, .int x2, .int x1]) (st' := []) (h' := mw (qm_u φ 0 36 0)) rfl ?_
  exact qr_w (a := [.ref 0, .retAddr 0, .int x2, .int x1]) ⟨Or.inr rfl, Or.inl rfl, Or.inr rfl, Or.inr rfl, trivial⟩ (mo_worked_L7_n F (d + 1) (by omega) F (qm_u φ 0 36 0) x2 x1 _ hs)
/-- SketchFillerModel.ofStatement(II)I -/
def mo_ofStatement (F : Nat) (φ : qm_F) (x1 : Int32) (x2 : Int32) : Option Int32 :=
  qg (qm_in ((6 * x1) + x2) 288) <|
  some (φ 6 (((6 * x1) + x2).toNatClampNeg))
set_option maxRecDepth 100000 in
theorem mo_ofStatement_n (F d : Nat) (φ : qm_F) (x1 : Int32) (x2 : Int32) (r : Int32) (hd : 0 ≤ d) (hs : mo_ofStatement F φ x1 x2 = some r) : qm_Rn d 96 0 [.ref 0, .int x1, .int x2] [] (mw φ) (some (.int r), mw φ) := by
  have hC := qC_96
  unfold mo_ofStatement at hs
  refine qr_s hC (n := 7) (pc' := 10) (ls' := [.ref 0, .int x1, .int x2]) (st' := [.int ((6 * x1) + x2), .ref 6]) (h' := mw φ) rfl ?_
  obtain ⟨hq, hs⟩ := qg_s hs
  refine qr_ia (v := φ 6 (((6 * x1) + x2).toNatClampNeg)) hC rfl rfl hq rfl ?_
  have hs := Option.some.inj hs
  subst hs
  exact qr_r hC rfl rfl
/-- SketchFillerModel.eAt(I)I -/
def mo_eAt (F : Nat) (φ : qm_F) (x1 : Int32) : Option (Int32 × qm_F) :=
  qb1 (mo_ofStatement F φ x1 2) fun y1 =>
  qb1 (mo_ofStatement F φ x1 3) fun y2 =>
  qb2 (mo_worked F φ y1 y2) fun y3 φ1 =>
  some (y3, φ1)
set_option maxRecDepth 100000 in
theorem mo_eAt_n (F d : Nat) (φ : qm_F) (x1 : Int32) (r : (Int32 × qm_F)) (hd : 4 ≤ d) (hs : mo_eAt F φ x1 = some r) : qm_Rn d 97 0 [.ref 0, .int x1] [] (mw φ) (some (.int r.1), mw r.2) := by
  obtain ⟨d, rfl⟩ : ∃ e, d = e + 1 := ⟨d - 1, by omega⟩
  have hC := qC_97
  unfold mo_eAt at hs
  refine qr_s hC (n := 4) (pc' := 4) (ls' := [.ref 0, .int x1]) (st' := [.int 2, .int x1, .ref 0, .ref 0]) (h' := mw φ) rfl ?_
  obtain ⟨y1, hy, hs⟩ := qb1_s hs
  refine qr_c (j := 96) (as := [.ref 0, .int x1, .int 2]) (rest := [.ref 0]) (v := some (.int y1)) (h1 := mw φ) hC rfl rfl qC_96 rfl rfl (mo_ofStatement_n F d φ x1 2 _ (by omega) hy) ?_
  show qm_Rn (d + 1) 97 7 [.ref 0, .int x1] [.int y1, .ref 0] (mw φ) _
  refine qr_s hC (n := 3) (pc' := 10) (ls' := [.ref 0, .int x1]) (st' := [.int 3, .int x1, .ref 0, .int y1, .ref 0]) (h' := mw φ) rfl ?_
  obtain ⟨y2, hy, hs⟩ := qb1_s hs
  refine qr_c (j := 96) (as := [.ref 0, .int x1, .int 3]) (rest := [.int y1, .ref 0]) (v := some (.int y2)) (h1 := mw φ) hC rfl rfl qC_96 rfl rfl (mo_ofStatement_n F d φ x1 3 _ (by omega) hy) ?_
  show qm_Rn (d + 1) 97 13 [.ref 0, .int x1] [.int y2, .int y1, .ref 0] (mw φ) _
  obtain ⟨y3, φ1, hy, hs⟩ := qb2_s hs
  refine qr_c (j := 95) (as := [.ref 0, .int y1, .int y2]) (rest := []) (v := some (.int y3)) (h1 := mw φ1) hC rfl rfl qC_95 rfl rfl (mo_worked_n F d φ y1 y2 _ (by omega) hy) ?_
  show qm_Rn (d + 1) 97 16 [.ref 0, .int x1] [.int y3] (mw φ1) _
  have hs := Option.some.inj hs
  subst hs
  exact qr_r hC rfl rfl
/-- SketchFillerModel.step()V -/
def mo_step (F : Nat) (φ : qm_F) : Option qm_F :=
  if ¬ (φ 0 37) = 120 then
    some (qm_u φ 0 37 ((φ 0 37) + 1))
  else
    some (qm_u φ 0 38 5)
set_option maxRecDepth 100000 in
theorem mo_step_n (F d : Nat) (φ : qm_F) (r : qm_F) (hd : 0 ≤ d) (hs : mo_step F φ = some r) : qm_Rn d 98 0 [.ref 0] [] (mw φ) (none, mw r) := by
  have hC := qC_98
  unfold mo_step at hs
  refine qr_s hC (n := 3) (pc' := 6) (ls' := [.ref 0]) (st' := [.int 120, .int (φ 0 37)]) (h' := mw φ) rfl ?_
  refine qr_ne2 (tgt := 17) hC rfl (by decide) rfl (fun hc => ?_) (fun hc => ?_)
  · rw [if_pos hc] at hs
    refine qr_s hC (n := 6) (pc' := 27) (ls' := [.ref 0]) (st' := []) (h' := mw (qm_u φ 0 37 ((φ 0 37) + 1))) rfl ?_
    have hs := Option.some.inj hs
    subst hs
    exact qr_r hC rfl rfl
  · rw [if_neg hc] at hs
    refine qr_s hC (n := 4) (pc' := 27) (ls' := [.ref 0]) (st' := []) (h' := mw (qm_u φ 0 38 5)) rfl ?_
    have hs := Option.some.inj hs
    subst hs
    exact qr_r hC rfl rfl
def mg_R_ok (d t : Nat) (φ : qm_F) (a b : Int32) (r : Int32 × qm_F) : Prop :=
  if t = 0 then qm_Rn d 99 0 [.ref 0, .int a, .int b, .retAddr 0] [] (mw φ) (none, mw r.2) else
  if t = 1 then qm_Rn d 100 0 [.ref 0, .int a, .retAddr 0, .retAddr 0] [] (mw φ) (none, mw r.2) else
  if t = 2 then qm_Rn d 101 0 [.ref 0, .int a, .int b] [] (mw φ) (none, mw r.2) else
  if t = 3 then qm_Rn d 102 0 [.ref 0, .int a, .retAddr 0] [] (mw φ) (none, mw r.2) else
  qm_Rn d 103 0 [.ref 0, .int a, .retAddr 0, .retAddr 0] [] (mw φ) (none, mw r.2)

/-- SketchFillerModel.runs(II)V -/
def mo_runs_L2 (F : Nat) (g : Nat → qm_F → Int32 → Int32 → Option (Int32 × qm_F)) : Nat → Nat → qm_F → Int32 → Int32 → Option qm_F
  | 0, _, _, _, _ => none
  | n + 1, t, φ, x2, x3 =>
    if t = 0 then
      if x2 ≤ x3 then
        some φ
      else
        if ¬ (φ 0 38) = (-1) then
          some φ
        else
          qb1 (mo_step F φ) fun φ1 =>
          if ¬ (φ1 0 38) = (-1) then
            mo_runs_L2 F g n 1 φ1 x2 x3
          else
            qb2 (g 1 φ1 x3 0) fun _ φ2 =>
            mo_runs_L2 F g n 1 φ2 x2 x3
    else
    qb1 (mo_ofStatement F φ x3 5) fun y1 =>
    mo_runs_L2 F g n 0 φ x2 y1
def mo_runs (F : Nat) (g : Nat → qm_F → Int32 → Int32 → Option (Int32 × qm_F)) (φ : qm_F) (x1 : Int32) (x2 : Int32) : Option qm_F :=
  mo_runs_L2 F g F 0 φ x2 x1
set_option maxRecDepth 100000 in
theorem mo_runs_L2_n0 (F d : Nat) (g : Nat → qm_F → Int32 → Int32 → Option (Int32 × qm_F)) (hg : ∀ t φ a b r, g t φ a b = some r → mg_R_ok (d - 1) t φ a b r) (hd : 5 ≤ d) : ∀ (n t : Nat) (φ : qm_F) (x2 : Int32) (x3 : Int32) (r : qm_F), mo_runs_L2 F g n t φ x2 x3 = some r → (t = 0 → qm_Rn d 99 2 [.ref 0, .retAddr 0, .int x2, .int x3] [] (mw φ) (none, mw r)) ∧ (t ≠ 0 → qm_Rn d 99 32 [.ref 0, .retAddr 0, .int x2, .int x3] [] (mw φ) (none, mw r)) := by
  obtain ⟨d, rfl⟩ : ∃ e, d = e + 1 := ⟨d - 1, by omega⟩
  simp only [Nat.add_sub_cancel] at hg
  have hC := qC_99
  intro n
  induction n with
  | zero => intro t φ x2 x3 r hs; simp [mo_runs_L2] at hs
  | succ n ihh =>
    intro t φ x2 x3 r hs
    rw [mo_runs_L2] at hs
    have ih0 : ∀ (φ : qm_F) (x2 : Int32) (x3 : Int32) (r : qm_F), mo_runs_L2 F g n 0 φ x2 x3 = some r → _ := fun φ x2 x3 r q => (ihh 0 φ x2 x3 r q).1 rfl
    have ih1 : ∀ (φ : qm_F) (x2 : Int32) (x3 : Int32) (r : qm_F), mo_runs_L2 F g n 1 φ x2 x3 = some r → _ := fun φ x2 x3 r q => (ihh 1 φ x2 x3 r q).2 (by decide)
    refine ⟨fun ht => ?_, fun ht => ?_⟩
    · subst ht
      rw [if_pos rfl] at hs
      refine qr_s hC (n := 2) (pc' := 4) (ls' := [.ref 0, .retAddr 0, .int x2, .int x3]) (st' := [.int x2, .int x3]) (h' := mw φ) rfl ?_
      refine qr_ge2 (tgt := 42) hC rfl (by decide) rfl (fun hc => ?_) (fun hc => ?_)
      · rw [if_pos hc] at hs
        have hs := Option.some.inj hs
        subst hs
        exact qr_r hC rfl rfl
      · rw [if_neg hc] at hs
        refine qr_s hC (n := 3) (pc' := 12) (ls' := [.ref 0, .retAddr 0, .int x2, .int x3]) (st' := [.int (-1), .int (φ 0 38)]) (h' := mw φ) rfl ?_
        refine qr_ne2 (tgt := 42) hC rfl (by decide) rfl (fun hc => ?_) (fun hc => ?_)
        · rw [if_pos hc] at hs
          have hs := Option.some.inj hs
          subst hs
          exact qr_r hC rfl rfl
        · rw [if_neg hc] at hs
          refine qr_s hC (n := 1) (pc' := 16) (ls' := [.ref 0, .retAddr 0, .int x2, .int x3]) (st' := [.ref 0]) (h' := mw φ) rfl ?_
          obtain ⟨φ1, hy, hs⟩ := qb1_s hs
          refine qr_c (j := 98) (as := [.ref 0]) (rest := []) (v := none) (h1 := mw φ1) hC rfl rfl qC_98 rfl rfl (mo_step_n F d φ _ (by omega) hy) ?_
          show qm_Rn (d + 1) 99 19 [.ref 0, .retAddr 0, .int x2, .int x3] [] (mw φ1) _
          refine qr_s hC (n := 3) (pc' := 24) (ls' := [.ref 0, .retAddr 0, .int x2, .int x3]) (st' := [.int (-1), .int (φ1 0 38)]) (h' := mw φ1) rfl ?_
          refine qr_ne2 (tgt := 32) hC rfl (by decide) rfl (fun hc => ?_) (fun hc => ?_)
          · rw [if_pos hc] at hs
            exact (ih1 φ1 x2 x3 _ hs)
          · rw [if_neg hc] at hs
            refine qr_s hC (n := 2) (pc' := 29) (ls' := [.ref 0, .retAddr 0, .int x2, .int x3]) (st' := [.int x3, .ref 0]) (h' := mw φ1) rfl ?_
            obtain ⟨_, φ2, hy, hs⟩ := qb2_s hs
            refine qr_c (j := 100) (as := [.ref 0, .int x3]) (rest := []) (v := none) (h1 := mw φ2) hC rfl rfl qC_100 rfl rfl (hg 1 φ1 x3 0 _ hy) ?_
            show qm_Rn (d + 1) 99 32 [.ref 0, .retAddr 0, .int x2, .int x3] [] (mw φ2) _
            exact (ih1 φ2 x2 x3 _ hs)
    · have ht0 := ht
      rw [if_neg ht0] at hs
      refine qr_s hC (n := 3) (pc' := 35) (ls' := [.ref 0, .retAddr 0, .int x2, .int x3]) (st' := [.int 5, .int x3, .ref 0]) (h' := mw φ) rfl ?_
      obtain ⟨y1, hy, hs⟩ := qb1_s hs
      refine qr_c (j := 96) (as := [.ref 0, .int x3, .int 5]) (rest := []) (v := some (.int y1)) (h1 := mw φ) hC rfl rfl qC_96 rfl rfl (mo_ofStatement_n F d φ x3 5 _ (by omega) hy) ?_
      show qm_Rn (d + 1) 99 38 [.ref 0, .retAddr 0, .int x2, .int x3] [.int y1] (mw φ) _
      refine qr_s hC (n := 2) (pc' := 2) (ls' := [.ref 0, .retAddr 0, .int x2, .int y1]) (st' := []) (h' := mw φ) rfl ?_
      exact (ih0 φ x2 y1 _ hs)
theorem mo_runs_L2_n_t0 (F d : Nat) (g : Nat → qm_F → Int32 → Int32 → Option (Int32 × qm_F)) (hg : ∀ t φ a b r, g t φ a b = some r → mg_R_ok (d - 1) t φ a b r) (hd : 5 ≤ d) (n : Nat) (φ : qm_F) (x2 : Int32) (x3 : Int32) (r : qm_F) (hs : mo_runs_L2 F g n 0 φ x2 x3 = some r) : qm_Rn d 99 2 [.ref 0, .retAddr 0, .int x2, .int x3] [] (mw φ) (none, mw r) := (mo_runs_L2_n0 F d g hg hd n 0 φ x2 x3 r hs).1 rfl
theorem mo_runs_L2_n_t1 (F d : Nat) (g : Nat → qm_F → Int32 → Int32 → Option (Int32 × qm_F)) (hg : ∀ t φ a b r, g t φ a b = some r → mg_R_ok (d - 1) t φ a b r) (hd : 5 ≤ d) (n : Nat) (φ : qm_F) (x2 : Int32) (x3 : Int32) (r : qm_F) (hs : mo_runs_L2 F g n 1 φ x2 x3 = some r) : qm_Rn d 99 32 [.ref 0, .retAddr 0, .int x2, .int x3] [] (mw φ) (none, mw r) := (mo_runs_L2_n0 F d g hg hd n 1 φ x2 x3 r hs).2 (by decide)
set_option maxRecDepth 100000 in
theorem mo_runs_n (F d : Nat) (g : Nat → qm_F → Int32 → Int32 → Option (Int32 × qm_F)) (hg : ∀ t φ a b r, g t φ a b = some r → mg_R_ok (d - 1) t φ a b r) (hd : 5 ≤ d) (φ : qm_F) (x1 : Int32) (x2 : Int32) (r : qm_F) (hs : mo_runs F g φ x1 x2 = some r) : qm_Rn d 99 0 [.ref 0, .int x1, .int x2, .retAddr 0] [] (mw φ) (none, mw r) := by
  obtain ⟨d, rfl⟩ : ∃ e, d = e + 1 := ⟨d - 1, by omega⟩
  simp only [Nat.add_sub_cancel] at hg
  have hC := qC_99
  unfold mo_runs at hs
  refine qr_s hC (n := 2) (pc' := 2) (ls' := [.ref 0, .int x1, .int x2, .int x1]) (st' := []) (h' := mw φ) rfl ?_
  exact qr_w (a := [.ref 0, .retAddr 0, .int x2, .int x1]) ⟨Or.inr rfl, Or.inl rfl, Or.inr rfl, Or.inr rfl, trivial⟩ (mo_runs_L2_n_t0 F (d + 1) g hg (by omega) F φ x2 x1 _ hs)

/-- SketchFillerModel.does(I)V -/
def mo_does_L125 (F : Nat) (g : Nat → qm_F → Int32 → Int32 → Option (Int32 × qm_F)) (φ : qm_F) (s0 : Int32) (s1 : Int32) : Option qm_F :=
  qb2 (g 0 φ s1 s0) fun _ φ1 =>
  some φ1
def mo_does_L106 (F : Nat) (g : Nat → qm_F → Int32 → Int32 → Option (Int32 × qm_F)) (φ : qm_F) (x1 : Int32) (x3 : Int32) (s0 : Int32) : Option qm_F :=
  if x3 = 0 then
    qb1 (mo_ofStatement F φ x1 5) fun y1 =>
    mo_does_L125 F g φ y1 s0
  else
    qb1 (mo_ofStatement F φ x1 4) fun y2 =>
    mo_does_L125 F g φ y2 s0
def mo_does (F : Nat) (g : Nat → qm_F → Int32 → Int32 → Option (Int32 × qm_F)) (φ : qm_F) (x1 : Int32) : Option qm_F :=
  qb1 (mo_ofStatement F φ x1 0) fun y1 =>
  if ¬ y1 = 3 then
    if ¬ y1 = 4 then
      qb2 (mo_eAt F φ x1) fun y2 φ1 =>
      if (φ1 0 38) = (-1) then
        if ¬ y1 = 0 then
          if ¬ y1 = 1 then
            if ¬ y1 = 2 then
              qb2 (g 2 φ1 x1 y2) fun _ φ2 =>
              some φ2
            else
              if y2 = 0 then
                qb1 (mo_ofStatement F φ1 x1 4) fun y3 =>
                mo_does_L106 F g φ1 x1 y2 y3
              else
                mo_does_L106 F g φ1 x1 y2 (x1 + 1)
          else
            if ¬ y2 = 0 then
              some (qm_u φ1 0 38 (-1))
            else
              some (qm_u φ1 0 38 2)
        else
          qb1 (mo_ofStatement F φ1 x1 1) fun y4 =>
          qg (qm_in y4 15) <|
          some (qm_u φ1 17 y4.toNatClampNeg y2)
      else
        some φ1
    else
      qb2 (g 4 φ x1 0) fun _ φ3 =>
      some φ3
  else
    qb2 (g 3 φ x1 0) fun _ φ4 =>
    some φ4
set_option maxRecDepth 100000 in
theorem mo_does_L125_n (F d : Nat) (g : Nat → qm_F → Int32 → Int32 → Option (Int32 × qm_F)) (hg : ∀ t φ a b r, g t φ a b = some r → mg_R_ok (d - 1) t φ a b r) (hd : 5 ≤ d) (φ : qm_F) (s0 : Int32) (s1 : Int32) (r : qm_F) (hs : mo_does_L125 F g φ s0 s1 = some r) : qm_Rn d 100 125 [.retAddr 0, .retAddr 0, .retAddr 0, .retAddr 0] [.int s0, .int s1, .ref 0] (mw φ) (none, mw r) := by
  obtain ⟨d, rfl⟩ : ∃ e, d = e + 1 := ⟨d - 1, by omega⟩
  simp only [Nat.add_sub_cancel] at hg
  have hC := qC_100
  unfold mo_does_L125 at hs
  obtain ⟨_, φ1, hy, hs⟩ := qb2_s hs
  refine qr_c (j := 99) (as := [.ref 0, .int s1, .int s0]) (rest := []) (v := none) (h1 := mw φ1) hC rfl rfl qC_99 rfl rfl (hg 0 φ s1 s0 _ hy) ?_
  show qm_Rn (d + 1) 100 128 [.retAddr 0, .retAddr 0, .retAddr 0, .retAddr 0] [] (mw φ1) _
  refine qr_s hC (n := 1) (pc' := 137) (ls' := [.retAddr 0, .retAddr 0, .retAddr 0, .retAddr 0]) (st' := []) (h' := mw φ1) rfl ?_
  have hs := Option.some.inj hs
  subst hs
  exact qr_r hC rfl rfl
set_option maxRecDepth 100000 in
theorem mo_does_L106_n (F d : Nat) (g : Nat → qm_F → Int32 → Int32 → Option (Int32 × qm_F)) (hg : ∀ t φ a b r, g t φ a b = some r → mg_R_ok (d - 1) t φ a b r) (hd : 5 ≤ d) (φ : qm_F) (x1 : Int32) (x3 : Int32) (s0 : Int32) (r : qm_F) (hs : mo_does_L106 F g φ x1 x3 s0 = some r) : qm_Rn d 100 106 [.ref 0, .int x1, .retAddr 0, .int x3] [.int s0, .ref 0] (mw φ) (none, mw r) := by
  obtain ⟨d, rfl⟩ : ∃ e, d = e + 1 := ⟨d - 1, by omega⟩
  simp only [Nat.add_sub_cancel] at hg
  have hC := qC_100
  unfold mo_does_L106 at hs
  refine qr_s hC (n := 1) (pc' := 107) (ls' := [.ref 0, .int x1, .retAddr 0, .int x3]) (st' := [.int x3, .int s0, .ref 0]) (h' := mw φ) rfl ?_
  refine qr_eq1 (tgt := 119) hC rfl (by decide) rfl (fun hc => ?_) (fun hc => ?_)
  · rw [if_pos hc] at hs
    refine qr_s hC (n := 3) (pc' := 122) (ls' := [.ref 0, .int x1, .retAddr 0, .int x3]) (st' := [.int 5, .int x1, .ref 0, .int s0, .ref 0]) (h' := mw φ) rfl ?_
    obtain ⟨y1, hy, hs⟩ := qb1_s hs
    refine qr_c (j := 96) (as := [.ref 0, .int x1, .int 5]) (rest := [.int s0, .ref 0]) (v := some (.int y1)) (h1 := mw φ) hC rfl rfl qC_96 rfl rfl (mo_ofStatement_n F d φ x1 5 _ (by omega) hy) ?_
    show qm_Rn (d + 1) 100 125 [.ref 0, .int x1, .retAddr 0, .int x3] [.int y1, .int s0, .ref 0] (mw φ) _
    exact qr_w (a := [.retAddr 0, .retAddr 0, .retAddr 0, .retAddr 0]) ⟨Or.inl rfl, Or.inl rfl, Or.inr rfl, Or.inl rfl, trivial⟩ (mo_does_L125_n F (d + 1) g hg (by omega) φ y1 s0 _ hs)
  · rw [if_neg hc] at hs
    refine qr_s hC (n := 3) (pc' := 113) (ls' := [.ref 0, .int x1, .retAddr 0, .int x3]) (st' := [.int 4, .int x1, .ref 0, .int s0, .ref 0]) (h' := mw φ) rfl ?_
    obtain ⟨y2, hy, hs⟩ := qb1_s hs
    refine qr_c (j := 96) (as := [.ref 0, .int x1, .int 4]) (rest := [.int s0, .ref 0]) (v := some (.int y2)) (h1 := mw φ) hC rfl rfl qC_96 rfl rfl (mo_ofStatement_n F d φ x1 4 _ (by omega) hy) ?_
    show qm_Rn (d + 1) 100 116 [.ref 0, .int x1, .retAddr 0, .int x3] [.int y2, .int s0, .ref 0] (mw φ) _
    refine qr_s hC (n := 1) (pc' := 125) (ls' := [.ref 0, .int x1, .retAddr 0, .int x3]) (st' := [.int y2, .int s0, .ref 0]) (h' := mw φ) rfl ?_
    exact qr_w (a := [.retAddr 0, .retAddr 0, .retAddr 0, .retAddr 0]) ⟨Or.inl rfl, Or.inl rfl, Or.inr rfl, Or.inl rfl, trivial⟩ (mo_does_L125_n F (d + 1) g hg (by omega) φ y2 s0 _ hs)
set_option maxRecDepth 100000 in
theorem mo_does_n (F d : Nat) (g : Nat → qm_F → Int32 → Int32 → Option (Int32 × qm_F)) (hg : ∀ t φ a b r, g t φ a b = some r → mg_R_ok (d - 1) t φ a b r) (hd : 5 ≤ d) (φ : qm_F) (x1 : Int32) (r : qm_F) (hs : mo_does F g φ x1 = some r) : qm_Rn d 100 0 [.ref 0, .int x1, .retAddr 0, .retAddr 0] [] (mw φ) (none, mw r) := by
  obtain ⟨d, rfl⟩ : ∃ e, d = e + 1 := ⟨d - 1, by omega⟩
  simp only [Nat.add_sub_cancel] at hg
  have hC := qC_100
  unfold mo_does at hs
  refine qr_s hC (n := 3) (pc' := 3) (ls' := [.ref 0, .int x1, .retAddr 0, .retAddr 0]) (st' := [.int 0, .int x1, .ref 0]) (h' := mw φ) rfl ?_
  obtain ⟨y1, hy, hs⟩ := qb1_s hs
  refine qr_c (j := 96) (as := [.ref 0, .int x1, .int 0]) (rest := []) (v := some (.int y1)) (h1 := mw φ) hC rfl rfl qC_96 rfl rfl (mo_ofStatement_n F d φ x1 0 _ (by omega) hy) ?_
  show qm_Rn (d + 1) 100 6 [.ref 0, .int x1, .retAddr 0, .retAddr 0] [.int y1] (mw φ) _
  refine qr_s hC (n := 3) (pc' := 9) (ls' := [.ref 0, .int x1, .int y1, .retAddr 0]) (st' := [.int 3, .int y1]) (h' := mw φ) rfl ?_
  refine qr_ne2 (tgt := 18) hC rfl (by decide) rfl (fun hc => ?_) (fun hc => ?_)
  · rw [if_pos hc] at hs
    refine qr_s hC (n := 2) (pc' := 20) (ls' := [.ref 0, .int x1, .int y1, .retAddr 0]) (st' := [.int 4, .int y1]) (h' := mw φ) rfl ?_
    refine qr_ne2 (tgt := 29) hC rfl (by decide) rfl (fun hc => ?_) (fun hc => ?_)
    · rw [if_pos hc] at hs
      refine qr_s hC (n := 2) (pc' := 31) (ls' := [.ref 0, .int x1, .int y1, .retAddr 0]) (st' := [.int x1, .ref 0]) (h' := mw φ) rfl ?_
      obtain ⟨y2, φ1, hy, hs⟩ := qb2_s hs
      refine qr_c (j := 97) (as := [.ref 0, .int x1]) (rest := []) (v := some (.int y2)) (h1 := mw φ1) hC rfl rfl qC_97 rfl rfl (mo_eAt_n F d φ x1 _ (by omega) hy) ?_
      show qm_Rn (d + 1) 100 34 [.ref 0, .int x1, .int y1, .retAddr 0] [.int y2] (mw φ1) _
      refine qr_s hC (n := 4) (pc' := 40) (ls' := [.ref 0, .int x1, .int y1, .int y2]) (st' := [.int (-1), .int (φ1 0 38)]) (h' := mw φ1) rfl ?_
      refine qr_eq2 (tgt := 44) hC rfl (by decide) rfl (fun hc => ?_) (fun hc => ?_)
      · rw [if_pos hc] at hs
        refine qr_s hC (n := 1) (pc' := 45) (ls' := [.ref 0, .int x1, .int y1, .int y2]) (st' := [.int y1]) (h' := mw φ1) rfl ?_
        refine qr_ne1 (tgt := 63) hC rfl (by decide) rfl (fun hc => ?_) (fun hc => ?_)
        · rw [if_pos hc] at hs
          refine qr_s hC (n := 2) (pc' := 65) (ls' := [.ref 0, .int x1, .int y1, .int y2]) (st' := [.int 1, .int y1]) (h' := mw φ1) rfl ?_
          refine qr_ne2 (tgt := 84) hC rfl (by decide) rfl (fun hc => ?_) (fun hc => ?_)
          · rw [if_pos hc] at hs
            refine qr_s hC (n := 2) (pc' := 86) (ls' := [.ref 0, .int x1, .int y1, .int y2]) (st' := [.int 2, .int y1]) (h' := mw φ1) rfl ?_
            refine qr_ne2 (tgt := 131) hC rfl (by decide) rfl (fun hc => ?_) (fun hc => ?_)
            · rw [if_pos hc] at hs
              refine qr_s hC (n := 3) (pc' := 134) (ls' := [.ref 0, .int x1, .int y1, .int y2]) (st' := [.int y2, .int x1, .ref 0]) (h' := mw φ1) rfl ?_
              obtain ⟨_, φ2, hy, hs⟩ := qb2_s hs
              refine qr_c (j := 101) (as := [.ref 0, .int x1, .int y2]) (rest := []) (v := none) (h1 := mw φ2) hC rfl rfl qC_101 rfl rfl (hg 2 φ1 x1 y2 _ hy) ?_
              show qm_Rn (d + 1) 100 137 [.ref 0, .int x1, .int y1, .int y2] [] (mw φ2) _
              have hs := Option.some.inj hs
              subst hs
              exact qr_r hC rfl rfl
            · rw [if_neg hc] at hs
              refine qr_s hC (n := 2) (pc' := 91) (ls' := [.ref 0, .int x1, .int y1, .int y2]) (st' := [.int y2, .ref 0]) (h' := mw φ1) rfl ?_
              refine qr_eq1 (tgt := 100) hC rfl (by decide) rfl (fun hc => ?_) (fun hc => ?_)
              · rw [if_pos hc] at hs
                refine qr_s hC (n := 3) (pc' := 103) (ls' := [.ref 0, .int x1, .int y1, .int y2]) (st' := [.int 4, .int x1, .ref 0, .ref 0]) (h' := mw φ1) rfl ?_
                obtain ⟨y3, hy, hs⟩ := qb1_s hs
                refine qr_c (j := 96) (as := [.ref 0, .int x1, .int 4]) (rest := [.ref 0]) (v := some (.int y3)) (h1 := mw φ1) hC rfl rfl qC_96 rfl rfl (mo_ofStatement_n F d φ1 x1 4 _ (by omega) hy) ?_
                show qm_Rn (d + 1) 100 106 [.ref 0, .int x1, .int y1, .int y2] [.int y3, .ref 0] (mw φ1) _
                exact qr_w (a := [.ref 0, .int x1, .retAddr 0, .int y2]) ⟨Or.inr rfl, Or.inr rfl, Or.inl rfl, Or.inr rfl, trivial⟩ (mo_does_L106_n F (d + 1) g hg (by omega) φ1 x1 y2 y3 _ hs)
              · rw [if_neg hc] at hs
                refine qr_s hC (n := 4) (pc' := 106) (ls' := [.ref 0, .int x1, .int y1, .int y2]) (st' := [.int (x1 + 1), .ref 0]) (h' := mw φ1) rfl ?_
                exact qr_w (a := [.ref 0, .int x1, .retAddr 0, .int y2]) ⟨Or.inr rfl, Or.inr rfl, Or.inl rfl, Or.inr rfl, trivial⟩ (mo_does_L106_n F (d + 1) g hg (by omega) φ1 x1 y2 (x1 + 1) _ hs)
          · rw [if_neg hc] at hs
            refine qr_s hC (n := 2) (pc' := 70) (ls' := [.ref 0, .int x1, .int y1, .int y2]) (st' := [.int y2, .ref 0]) (h' := mw φ1) rfl ?_
            refine qr_ne1 (tgt := 77) hC rfl (by decide) rfl (fun hc => ?_) (fun hc => ?_)
            · rw [if_pos hc] at hs
              refine qr_s hC (n := 3) (pc' := 137) (ls' := [.ref 0, .int x1, .int y1, .int y2]) (st' := []) (h' := mw (qm_u φ1 0 38 (-1))) rfl ?_
              have hs := Option.some.inj hs
              subst hs
              exact qr_r hC rfl rfl
            · rw [if_neg hc] at hs
              refine qr_s hC (n := 4) (pc' := 137) (ls' := [.ref 0, .int x1, .int y1, .int y2]) (st' := []) (h' := mw (qm_u φ1 0 38 2)) rfl ?_
              have hs := Option.some.inj hs
              subst hs
              exact qr_r hC rfl rfl
        · rw [if_neg hc] at hs
          refine qr_s hC (n := 5) (pc' := 55) (ls' := [.ref 0, .int x1, .int y1, .int y2]) (st' := [.int 1, .int x1, .ref 0, .ref 17]) (h' := mw φ1) rfl ?_
          obtain ⟨y4, hy, hs⟩ := qb1_s hs
          refine qr_c (j := 96) (as := [.ref 0, .int x1, .int 1]) (rest := [.ref 17]) (v := some (.int y4)) (h1 := mw φ1) hC rfl rfl qC_96 rfl rfl (mo_ofStatement_n F d φ1 x1 1 _ (by omega) hy) ?_
          show qm_Rn (d + 1) 100 58 [.ref 0, .int x1, .int y1, .int y2] [.int y4, .ref 17] (mw φ1) _
          refine qr_s hC (n := 1) (pc' := 59) (ls' := [.ref 0, .int x1, .int y1, .int y2]) (st' := [.int y2, .int y4, .ref 17]) (h' := mw φ1) rfl ?_
          obtain ⟨hq, hs⟩ := qg_s hs
          refine qr_is (h' := mw (qm_u φ1 17 y4.toNatClampNeg y2)) hC rfl rfl hq rfl ?_
          refine qr_s hC (n := 1) (pc' := 137) (ls' := [.ref 0, .int x1, .int y1, .int y2]) (st' := []) (h' := mw (qm_u φ1 17 y4.toNatClampNeg y2)) rfl ?_
          have hs := Option.some.inj hs
          subst hs
          exact qr_r hC rfl rfl
      · rw [if_neg hc] at hs
        have hs := Option.some.inj hs
        subst hs
        exact qr_r hC rfl rfl
    · rw [if_neg hc] at hs
      refine qr_s hC (n := 2) (pc' := 25) (ls' := [.ref 0, .int x1, .int y1, .retAddr 0]) (st' := [.int x1, .ref 0]) (h' := mw φ) rfl ?_
      obtain ⟨_, φ3, hy, hs⟩ := qb2_s hs
      refine qr_c (j := 103) (as := [.ref 0, .int x1]) (rest := []) (v := none) (h1 := mw φ3) hC rfl rfl qC_103 rfl rfl (hg 4 φ x1 0 _ hy) ?_
      show qm_Rn (d + 1) 100 28 [.ref 0, .int x1, .int y1, .retAddr 0] [] (mw φ3) _
      have hs := Option.some.inj hs
      subst hs
      exact qr_r hC rfl rfl
  · rw [if_neg hc] at hs
    refine qr_s hC (n := 2) (pc' := 14) (ls' := [.ref 0, .int x1, .int y1, .retAddr 0]) (st' := [.int x1, .ref 0]) (h' := mw φ) rfl ?_
    obtain ⟨_, φ4, hy, hs⟩ := qb2_s hs
    refine qr_c (j := 102) (as := [.ref 0, .int x1]) (rest := []) (v := none) (h1 := mw φ4) hC rfl rfl qC_102 rfl rfl (hg 3 φ x1 0 _ hy) ?_
    show qm_Rn (d + 1) 100 17 [.ref 0, .int x1, .int y1, .retAddr 0] [] (mw φ4) _
    have hs := Option.some.inj hs
    subst hs
    exact qr_r hC rfl rfl

/-- SketchFillerModel.lets(II)V -/
def mo_lets (F : Nat) (g : Nat → qm_F → Int32 → Int32 → Option (Int32 × qm_F)) (φ : qm_F) (x1 : Int32) (x2 : Int32) : Option qm_F :=
  qb1 (mo_ofStatement F φ x1 1) fun y1 =>
  qg (qm_in y1 15) <|
  qb1 (mo_ofStatement F (qm_u φ 17 y1.toNatClampNeg x2) x1 5) fun y2 =>
  qb2 (g 0 (qm_u φ 17 y1.toNatClampNeg x2) (x1 + 1) y2) fun _ φ1 =>
  some φ1
set_option maxRecDepth 100000 in
theorem mo_lets_n (F d : Nat) (g : Nat → qm_F → Int32 → Int32 → Option (Int32 × qm_F)) (hg : ∀ t φ a b r, g t φ a b = some r → mg_R_ok (d - 1) t φ a b r) (hd : 5 ≤ d) (φ : qm_F) (x1 : Int32) (x2 : Int32) (r : qm_F) (hs : mo_lets F g φ x1 x2 = some r) : qm_Rn d 101 0 [.ref 0, .int x1, .int x2] [] (mw φ) (none, mw r) := by
  obtain ⟨d, rfl⟩ : ∃ e, d = e + 1 := ⟨d - 1, by omega⟩
  simp only [Nat.add_sub_cancel] at hg
  have hC := qC_101
  unfold mo_lets at hs
  refine qr_s hC (n := 5) (pc' := 7) (ls' := [.ref 0, .int x1, .int x2]) (st' := [.int 1, .int x1, .ref 0, .ref 17]) (h' := mw φ) rfl ?_
  obtain ⟨y1, hy, hs⟩ := qb1_s hs
  refine qr_c (j := 96) (as := [.ref 0, .int x1, .int 1]) (rest := [.ref 17]) (v := some (.int y1)) (h1 := mw φ) hC rfl rfl qC_96 rfl rfl (mo_ofStatement_n F d φ x1 1 _ (by omega) hy) ?_
  show qm_Rn (d + 1) 101 10 [.ref 0, .int x1, .int x2] [.int y1, .ref 17] (mw φ) _
  refine qr_s hC (n := 1) (pc' := 11) (ls' := [.ref 0, .int x1, .int x2]) (st' := [.int x2, .int y1, .ref 17]) (h' := mw φ) rfl ?_
  obtain ⟨hq, hs⟩ := qg_s hs
  refine qr_is (h' := mw (qm_u φ 17 y1.toNatClampNeg x2)) hC rfl rfl hq rfl ?_
  refine qr_s hC (n := 7) (pc' := 19) (ls' := [.ref 0, .int x1, .int x2]) (st' := [.int 5, .int x1, .ref 0, .int (x1 + 1), .ref 0]) (h' := mw (qm_u φ 17 y1.toNatClampNeg x2)) rfl ?_
  obtain ⟨y2, hy, hs⟩ := qb1_s hs
  refine qr_c (j := 96) (as := [.ref 0, .int x1, .int 5]) (rest := [.int (x1 + 1), .ref 0]) (v := some (.int y2)) (h1 := mw (qm_u φ 17 y1.toNatClampNeg x2)) hC rfl rfl qC_96 rfl rfl (mo_ofStatement_n F d (qm_u φ 17 y1.toNatClampNeg x2) x1 5 _ (by omega) hy) ?_
  show qm_Rn (d + 1) 101 22 [.ref 0, .int x1, .int x2] [.int y2, .int (x1 + 1), .ref 0] (mw (qm_u φ 17 y1.toNatClampNeg x2)) _
  obtain ⟨_, φ1, hy, hs⟩ := qb2_s hs
  refine qr_c (j := 99) (as := [.ref 0, .int (x1 + 1), .int y2]) (rest := []) (v := none) (h1 := mw φ1) hC rfl rfl qC_99 rfl rfl (hg 0 (qm_u φ 17 y1.toNatClampNeg x2) (x1 + 1) y2 _ hy) ?_
  show qm_Rn (d + 1) 101 25 [.ref 0, .int x1, .int x2] [] (mw φ1) _
  have hs := Option.some.inj hs
  subst hs
  exact qr_r hC rfl rfl

/-- SketchFillerModel.loops(I)V -/
def mo_loops_L2 (F : Nat) (g : Nat → qm_F → Int32 → Int32 → Option (Int32 × qm_F)) : Nat → qm_F → Int32 → Int32 → Option qm_F
  | 0, _, _, _ => none
  | n + 1, φ, x1, x2 =>
    qb1 (mo_ofStatement F φ x1 1) fun y1 =>
    if y1 ≤ x2 then
      some φ
    else
      if ¬ (φ 0 38) = (-1) then
        some φ
      else
        qb1 (mo_step F φ) fun φ1 =>
        qb1 (mo_ofStatement F φ1 x1 5) fun y2 =>
        qb2 (g 0 φ1 (x1 + 1) y2) fun _ φ2 =>
        mo_loops_L2 F g n φ2 x1 (x2 + 1)
def mo_loops (F : Nat) (g : Nat → qm_F → Int32 → Int32 → Option (Int32 × qm_F)) (φ : qm_F) (x1 : Int32) : Option qm_F :=
  mo_loops_L2 F g F φ x1 0
set_option maxRecDepth 100000 in
theorem mo_loops_L2_n (F d : Nat) (g : Nat → qm_F → Int32 → Int32 → Option (Int32 × qm_F)) (hg : ∀ t φ a b r, g t φ a b = some r → mg_R_ok (d - 1) t φ a b r) (hd : 5 ≤ d) : ∀ (n : Nat) (φ : qm_F) (x1 : Int32) (x2 : Int32) (r : qm_F), mo_loops_L2 F g n φ x1 x2 = some r → qm_Rn d 102 2 [.ref 0, .int x1, .int x2] [] (mw φ) (none, mw r) := by
  obtain ⟨d, rfl⟩ : ∃ e, d = e + 1 := ⟨d - 1, by omega⟩
  simp only [Nat.add_sub_cancel] at hg
  have hC := qC_102
  intro n
  induction n with
  | zero => intro φ x1 x2 r hs; simp [mo_loops_L2] at hs
  | succ n ih =>
    intro φ x1 x2 r hs
    rw [mo_loops_L2] at hs
    refine qr_s hC (n := 4) (pc' := 6) (ls' := [.ref 0, .int x1, .int x2]) (st' := [.int 1, .int x1, .ref 0, .int x2]) (h' := mw φ) rfl ?_
    obtain ⟨y1, hy, hs⟩ := qb1_s hs
    refine qr_c (j := 96) (as := [.ref 0, .int x1, .int 1]) (rest := [.int x2]) (v := some (.int y1)) (h1 := mw φ) hC rfl rfl qC_96 rfl rfl (mo_ofStatement_n F d φ x1 1 _ (by omega) hy) ?_
    show qm_Rn (d + 1) 102 9 [.ref 0, .int x1, .int x2] [.int y1, .int x2] (mw φ) _
    refine qr_ge2 (tgt := 43) hC rfl (by decide) rfl (fun hc => ?_) (fun hc => ?_)
    · rw [if_pos hc] at hs
      have hs := Option.some.inj hs
      subst hs
      exact qr_r hC rfl rfl
    · rw [if_neg hc] at hs
      refine qr_s hC (n := 3) (pc' := 17) (ls' := [.ref 0, .int x1, .int x2]) (st' := [.int (-1), .int (φ 0 38)]) (h' := mw φ) rfl ?_
      refine qr_ne2 (tgt := 43) hC rfl (by decide) rfl (fun hc => ?_) (fun hc => ?_)
      · rw [if_pos hc] at hs
        have hs := Option.some.inj hs
        subst hs
        exact qr_r hC rfl rfl
      · rw [if_neg hc] at hs
        refine qr_s hC (n := 1) (pc' := 21) (ls' := [.ref 0, .int x1, .int x2]) (st' := [.ref 0]) (h' := mw φ) rfl ?_
        obtain ⟨φ1, hy, hs⟩ := qb1_s hs
        refine qr_c (j := 98) (as := [.ref 0]) (rest := []) (v := none) (h1 := mw φ1) hC rfl rfl qC_98 rfl rfl (mo_step_n F d φ _ (by omega) hy) ?_
        show qm_Rn (d + 1) 102 24 [.ref 0, .int x1, .int x2] [] (mw φ1) _
        refine qr_s hC (n := 7) (pc' := 31) (ls' := [.ref 0, .int x1, .int x2]) (st' := [.int 5, .int x1, .ref 0, .int (x1 + 1), .ref 0]) (h' := mw φ1) rfl ?_
        obtain ⟨y2, hy, hs⟩ := qb1_s hs
        refine qr_c (j := 96) (as := [.ref 0, .int x1, .int 5]) (rest := [.int (x1 + 1), .ref 0]) (v := some (.int y2)) (h1 := mw φ1) hC rfl rfl qC_96 rfl rfl (mo_ofStatement_n F d φ1 x1 5 _ (by omega) hy) ?_
        show qm_Rn (d + 1) 102 34 [.ref 0, .int x1, .int x2] [.int y2, .int (x1 + 1), .ref 0] (mw φ1) _
        obtain ⟨_, φ2, hy, hs⟩ := qb2_s hs
        refine qr_c (j := 99) (as := [.ref 0, .int (x1 + 1), .int y2]) (rest := []) (v := none) (h1 := mw φ2) hC rfl rfl qC_99 rfl rfl (hg 0 φ1 (x1 + 1) y2 _ hy) ?_
        show qm_Rn (d + 1) 102 37 [.ref 0, .int x1, .int x2] [] (mw φ2) _
        refine qr_s hC (n := 2) (pc' := 2) (ls' := [.ref 0, .int x1, .int (x2 + 1)]) (st' := []) (h' := mw φ2) rfl ?_
        exact ih φ2 x1 (x2 + 1) _ hs
set_option maxRecDepth 100000 in
theorem mo_loops_n (F d : Nat) (g : Nat → qm_F → Int32 → Int32 → Option (Int32 × qm_F)) (hg : ∀ t φ a b r, g t φ a b = some r → mg_R_ok (d - 1) t φ a b r) (hd : 5 ≤ d) (φ : qm_F) (x1 : Int32) (r : qm_F) (hs : mo_loops F g φ x1 = some r) : qm_Rn d 102 0 [.ref 0, .int x1, .retAddr 0] [] (mw φ) (none, mw r) := by
  obtain ⟨d, rfl⟩ : ∃ e, d = e + 1 := ⟨d - 1, by omega⟩
  simp only [Nat.add_sub_cancel] at hg
  have hC := qC_102
  unfold mo_loops at hs
  refine qr_s hC (n := 2) (pc' := 2) (ls' := [.ref 0, .int x1, .int 0]) (st' := []) (h' := mw φ) rfl ?_
  exact mo_loops_L2_n F (d + 1) g hg (by omega) F φ x1 0 _ hs

/-- SketchFillerModel.whiles(I)V -/
def mo_whiles_L23 (F : Nat) (g : Nat → qm_F → Int32 → Int32 → Option (Int32 × qm_F)) : Nat → qm_F → Int32 → Int32 → Int32 → Option qm_F
  | 0, _, _, _, _ => none
  | n + 1, φ, x1, x2, x3 =>
    if ¬ (φ 0 38) = (-1) then
      some φ
    else
      qb2 (mo_eAt F φ x1) fun y1 φ1 =>
      if y1 = 0 then
        some φ1
      else
        if ¬ x3 = x2 then
          qb1 (mo_step F φ1) fun φ2 =>
          qb1 (mo_ofStatement F φ2 x1 5) fun y2 =>
          qb2 (g 0 φ2 (x1 + 1) y2) fun _ φ3 =>
          mo_whiles_L23 F g n φ3 x1 x2 (x3 + 1)
        else
          some (qm_u φ1 0 38 4)
def mo_whiles (F : Nat) (g : Nat → qm_F → Int32 → Int32 → Option (Int32 × qm_F)) (φ : qm_F) (x1 : Int32) : Option qm_F :=
  if (φ 0 43) ≤ 0 then
    qb1 (mo_ofStatement F φ x1 1) fun y1 =>
    mo_whiles_L23 F g F φ x1 y1 0
  else
    mo_whiles_L23 F g F φ x1 (φ 0 43) 0
set_option maxRecDepth 100000 in
theorem mo_whiles_L23_n (F d : Nat) (g : Nat → qm_F → Int32 → Int32 → Option (Int32 × qm_F)) (hg : ∀ t φ a b r, g t φ a b = some r → mg_R_ok (d - 1) t φ a b r) (hd : 5 ≤ d) : ∀ (n : Nat) (φ : qm_F) (x1 : Int32) (x2 : Int32) (x3 : Int32) (r : qm_F), mo_whiles_L23 F g n φ x1 x2 x3 = some r → qm_Rn d 103 23 [.ref 0, .int x1, .int x2, .int x3] [] (mw φ) (none, mw r) := by
  obtain ⟨d, rfl⟩ : ∃ e, d = e + 1 := ⟨d - 1, by omega⟩
  simp only [Nat.add_sub_cancel] at hg
  have hC := qC_103
  intro n
  induction n with
  | zero => intro φ x1 x2 x3 r hs; simp [mo_whiles_L23] at hs
  | succ n ih =>
    intro φ x1 x2 x3 r hs
    rw [mo_whiles_L23] at hs
    refine qr_s hC (n := 3) (pc' := 28) (ls' := [.ref 0, .int x1, .int x2, .int x3]) (st' := [.int (-1), .int (φ 0 38)]) (h' := mw φ) rfl ?_
    refine qr_ne2 (tgt := 73) hC rfl (by decide) rfl (fun hc => ?_) (fun hc => ?_)
    · rw [if_pos hc] at hs
      have hs := Option.some.inj hs
      subst hs
      exact qr_r hC rfl rfl
    · rw [if_neg hc] at hs
      refine qr_s hC (n := 2) (pc' := 33) (ls' := [.ref 0, .int x1, .int x2, .int x3]) (st' := [.int x1, .ref 0]) (h' := mw φ) rfl ?_
      obtain ⟨y1, φ1, hy, hs⟩ := qb2_s hs
      refine qr_c (j := 97) (as := [.ref 0, .int x1]) (rest := []) (v := some (.int y1)) (h1 := mw φ1) hC rfl rfl qC_97 rfl rfl (mo_eAt_n F d φ x1 _ (by omega) hy) ?_
      show qm_Rn (d + 1) 103 36 [.ref 0, .int x1, .int x2, .int x3] [.int y1] (mw φ1) _
      refine qr_eq1 (tgt := 73) hC rfl (by decide) rfl (fun hc => ?_) (fun hc => ?_)
      · rw [if_pos hc] at hs
        have hs := Option.some.inj hs
        subst hs
        exact qr_r hC rfl rfl
      · rw [if_neg hc] at hs
        refine qr_s hC (n := 2) (pc' := 41) (ls' := [.ref 0, .int x1, .int x2, .int x3]) (st' := [.int x2, .int x3]) (h' := mw φ1) rfl ?_
        refine qr_ne2 (tgt := 50) hC rfl (by decide) rfl (fun hc => ?_) (fun hc => ?_)
        · rw [if_pos hc] at hs
          refine qr_s hC (n := 2) (pc' := 54) (ls' := [.ref 0, .int x1, .int x2, .int (x3 + 1)]) (st' := [.ref 0]) (h' := mw φ1) rfl ?_
          obtain ⟨φ2, hy, hs⟩ := qb1_s hs
          refine qr_c (j := 98) (as := [.ref 0]) (rest := []) (v := none) (h1 := mw φ2) hC rfl rfl qC_98 rfl rfl (mo_step_n F d φ1 _ (by omega) hy) ?_
          show qm_Rn (d + 1) 103 57 [.ref 0, .int x1, .int x2, .int (x3 + 1)] [] (mw φ2) _
          refine qr_s hC (n := 7) (pc' := 64) (ls' := [.ref 0, .int x1, .int x2, .int (x3 + 1)]) (st' := [.int 5, .int x1, .ref 0, .int (x1 + 1), .ref 0]) (h' := mw φ2) rfl ?_
          obtain ⟨y2, hy, hs⟩ := qb1_s hs
          refine qr_c (j := 96) (as := [.ref 0, .int x1, .int 5]) (rest := [.int (x1 + 1), .ref 0]) (v := some (.int y2)) (h1 := mw φ2) hC rfl rfl qC_96 rfl rfl (mo_ofStatement_n F d φ2 x1 5 _ (by omega) hy) ?_
          show qm_Rn (d + 1) 103 67 [.ref 0, .int x1, .int x2, .int (x3 + 1)] [.int y2, .int (x1 + 1), .ref 0] (mw φ2) _
          obtain ⟨_, φ3, hy, hs⟩ := qb2_s hs
          refine qr_c (j := 99) (as := [.ref 0, .int (x1 + 1), .int y2]) (rest := []) (v := none) (h1 := mw φ3) hC rfl rfl qC_99 rfl rfl (hg 0 φ2 (x1 + 1) y2 _ hy) ?_
          show qm_Rn (d + 1) 103 70 [.ref 0, .int x1, .int x2, .int (x3 + 1)] [] (mw φ3) _
          refine qr_s hC (n := 1) (pc' := 23) (ls' := [.ref 0, .int x1, .int x2, .int (x3 + 1)]) (st' := []) (h' := mw φ3) rfl ?_
          exact ih φ3 x1 x2 (x3 + 1) _ hs
        · rw [if_neg hc] at hs
          refine qr_s hC (n := 3) (pc' := 49) (ls' := [.ref 0, .int x1, .int x2, .int x3]) (st' := []) (h' := mw (qm_u φ1 0 38 4)) rfl ?_
          have hs := Option.some.inj hs
          subst hs
          exact qr_r hC rfl rfl
set_option maxRecDepth 100000 in
theorem mo_whiles_n (F d : Nat) (g : Nat → qm_F → Int32 → Int32 → Option (Int32 × qm_F)) (hg : ∀ t φ a b r, g t φ a b = some r → mg_R_ok (d - 1) t φ a b r) (hd : 5 ≤ d) (φ : qm_F) (x1 : Int32) (r : qm_F) (hs : mo_whiles F g φ x1 = some r) : qm_Rn d 103 0 [.ref 0, .int x1, .retAddr 0, .retAddr 0] [] (mw φ) (none, mw r) := by
  obtain ⟨d, rfl⟩ : ∃ e, d = e + 1 := ⟨d - 1, by omega⟩
  simp only [Nat.add_sub_cancel] at hg
  have hC := qC_103
  unfold mo_whiles at hs
  refine qr_s hC (n := 2) (pc' := 4) (ls' := [.ref 0, .int x1, .retAddr 0, .retAddr 0]) (st' := [.int (φ 0 43)]) (h' := mw φ) rfl ?_
  refine qr_le1 (tgt := 14) hC rfl (by decide) rfl (fun hc => ?_) (fun hc => ?_)
  · rw [if_pos hc] at hs
    refine qr_s hC (n := 3) (pc' := 17) (ls' := [.ref 0, .int x1, .retAddr 0, .retAddr 0]) (st' := [.int 1, .int x1, .ref 0]) (h' := mw φ) rfl ?_
    obtain ⟨y1, hy, hs⟩ := qb1_s hs
    refine qr_c (j := 96) (as := [.ref 0, .int x1, .int 1]) (rest := []) (v := some (.int y1)) (h1 := mw φ) hC rfl rfl qC_96 rfl rfl (mo_ofStatement_n F d φ x1 1 _ (by omega) hy) ?_
    show qm_Rn (d + 1) 103 20 [.ref 0, .int x1, .retAddr 0, .retAddr 0] [.int y1] (mw φ) _
    refine qr_s hC (n := 3) (pc' := 23) (ls' := [.ref 0, .int x1, .int y1, .int 0]) (st' := []) (h' := mw φ) rfl ?_
    exact mo_whiles_L23_n F (d + 1) g hg (by omega) F φ x1 y1 0 _ hs
  · rw [if_neg hc] at hs
    refine qr_s hC (n := 6) (pc' := 23) (ls' := [.ref 0, .int x1, .int (φ 0 43), .int 0]) (st' := []) (h' := mw φ) rfl ?_
    exact mo_whiles_L23_n F (d + 1) g hg (by omega) F φ x1 (φ 0 43) 0 _ hs

def mg_R (F : Nat) : Nat → Nat → qm_F → Int32 → Int32 → Option (Int32 × qm_F)
  | 0, _, _, _, _ => none
  | n + 1, t, φ, a, b =>
    if t = 0 then qb1 (mo_runs F (mg_R F n) φ a b) fun q => some (0, q) else
    if t = 1 then qb1 (mo_does F (mg_R F n) φ a) fun q => some (0, q) else
    if t = 2 then qb1 (mo_lets F (mg_R F n) φ a b) fun q => some (0, q) else
    if t = 3 then qb1 (mo_loops F (mg_R F n) φ a) fun q => some (0, q) else
    qb1 (mo_whiles F (mg_R F n) φ a) fun q => some (0, q)

theorem mg_R_n (F : Nat) : ∀ (n t : Nat) (φ : qm_F) (a b : Int32) (r : Int32 × qm_F) (d : Nat), 5 + n ≤ d → mg_R F n t φ a b = some r → mg_R_ok d t φ a b r := by
  intro n
  induction n with
  | zero => intro t φ a b r d hd hs; simp [mg_R] at hs
  | succ n ih =>
    intro t φ a b r d hd hs
    rw [mg_R] at hs
    have hg : ∀ t φ a b r, mg_R F n t φ a b = some r → mg_R_ok (d - 1) t φ a b r := fun t φ a b r q => ih t φ a b r (d - 1) (by omega) q
    unfold mg_R_ok
    by_cases h0 : t = 0
    · rw [if_pos h0] at hs ⊢
      obtain ⟨q, hq, hs⟩ := qb1_s hs
      cases hs
      exact mo_runs_n F d (mg_R F n) hg (by omega) φ a b q hq
    rw [if_neg h0] at hs ⊢
    by_cases h1 : t = 1
    · rw [if_pos h1] at hs ⊢
      obtain ⟨q, hq, hs⟩ := qb1_s hs
      cases hs
      exact mo_does_n F d (mg_R F n) hg (by omega) φ a q hq
    rw [if_neg h1] at hs ⊢
    by_cases h2 : t = 2
    · rw [if_pos h2] at hs ⊢
      obtain ⟨q, hq, hs⟩ := qb1_s hs
      cases hs
      exact mo_lets_n F d (mg_R F n) hg (by omega) φ a b q hq
    rw [if_neg h2] at hs ⊢
    by_cases h3 : t = 3
    · rw [if_pos h3] at hs ⊢
      obtain ⟨q, hq, hs⟩ := qb1_s hs
      cases hs
      exact mo_loops_n F d (mg_R F n) hg (by omega) φ a q hq
    rw [if_neg h3] at hs ⊢
    obtain ⟨q, hq, hs⟩ := qb1_s hs
    cases hs
    exact mo_whiles_n F d (mg_R F n) hg (by omega) φ a q hq
/-- SketchFillerModel.ran(II)I -/
def mo_ran_L60 (F : Nat) : Nat → qm_F → Int32 → Int32 → Option (Int32 × qm_F)
  | 0, _, _, _ => none
  | n + 1, φ, x1, x3 =>
    if (φ 2 2) ≤ x3 then
      qb2 (mg_R F 40 0 (qm_u (qm_u φ 0 37 0) 0 38 (-1)) 0 (φ 2 4)) fun _ φ1 =>
      qb2 (mo_worked F φ1 (φ1 9 0) (φ1 10 0)) fun y1 φ2 =>
      if ¬ (φ2 0 38) = (-1) then
        some (φ2 0 38, φ2)
      else
        if ¬ y1 = 0 then
          some (0, (qm_u φ2 0 38 0))
        else
          some (1, (qm_u φ2 0 38 1))
    else
      qb1 (mo_holeIn F φ x1 x3) fun y2 =>
      qg (qm_in (3 + x3) 15) <|
      mo_ran_L60 F n (qm_u φ 17 ((3 + x3).toNatClampNeg) y2) x1 (x3 + 1)
def mo_ran_L23 (F : Nat) : Nat → qm_F → Int32 → Int32 → Int32 → Option (Int32 × qm_F)
  | 0, _, _, _, _ => none
  | n + 1, φ, x1, x2, x3 =>
    if (φ 2 1) ≤ x3 then
      mo_ran_L60 F F φ x1 0
    else
      qb1 (mo_partOf F φ x2 0 (φ 2 1) x3) fun y1 =>
      qg (qm_in x3 15) <|
      mo_ran_L23 F n (qm_u φ 17 x3.toNatClampNeg y1) x1 x2 (x3 + 1)
def mo_ran_L2 (F : Nat) : Nat → qm_F → Int32 → Int32 → Int32 → Option (Int32 × qm_F)
  | 0, _, _, _, _ => none
  | n + 1, φ, x1, x2, x3 =>
    if 15 ≤ x3 then
      mo_ran_L23 F F φ x1 x2 0
    else
      qg (qm_in x3 15) <|
      mo_ran_L2 F n (qm_u φ 17 x3.toNatClampNeg 0) x1 x2 (x3 + 1)
def mo_ran (F : Nat) (φ : qm_F) (x1 : Int32) (x2 : Int32) : Option (Int32 × qm_F) :=
  mo_ran_L2 F F φ x1 x2 0
set_option maxRecDepth 100000 in
theorem mo_ran_L60_n (F d : Nat) (hd : 46 ≤ d) : ∀ (n : Nat) (φ : qm_F) (x1 : Int32) (x3 : Int32) (r : (Int32 × qm_F)), mo_ran_L60 F n φ x1 x3 = some r → qm_Rn d 104 60 [.ref 0, .int x1, .retAddr 0, .int x3] [] (mw φ) (some (.int r.1), mw r.2) := by
  obtain ⟨d, rfl⟩ : ∃ e, d = e + 1 := ⟨d - 1, by omega⟩
  have hC := qC_104
  intro n
  induction n with
  | zero => intro φ x1 x3 r hs; simp [mo_ran_L60] at hs
  | succ n ih =>
    intro φ x1 x3 r hs
    rw [mo_ran_L60] at hs
    refine qr_s hC (n := 4) (pc' := 66) (ls' := [.ref 0, .int x1, .retAddr 0, .int x3]) (st' := [.int 2, .ref 2, .int x3]) (h' := mw φ) rfl ?_
    refine qr_ia (v := φ 2 2) hC rfl rfl (by decide) rfl ?_
    refine qr_ge2 (tgt := 90) hC rfl (by decide) rfl (fun hc => ?_) (fun hc => ?_)
    · rw [if_pos hc] at hs
      refine qr_s hC (n := 11) (pc' := 107) (ls' := [.ref 0, .int x1, .retAddr 0, .int x3]) (st' := [.int 4, .ref 2, .int 0, .ref 0]) (h' := mw (qm_u (qm_u φ 0 37 0) 0 38 (-1))) rfl ?_
      refine qr_ia (v := φ 2 4) hC rfl rfl (by decide) rfl ?_
      obtain ⟨_, φ1, hy, hs⟩ := qb2_s hs
      refine qr_c (j := 99) (as := [.ref 0, .int 0, .int (φ 2 4)]) (rest := []) (v := none) (h1 := mw φ1) hC rfl rfl qC_99 rfl rfl (mg_R_n F 40 0 (qm_u (qm_u φ 0 37 0) 0 38 (-1)) 0 (φ 2 4) _ d (by omega) hy) ?_
      show qm_Rn (d + 1) 104 111 [.ref 0, .int x1, .retAddr 0, .int x3] [] (mw φ1) _
      refine qr_s hC (n := 4) (pc' := 117) (ls' := [.ref 0, .int x1, .retAddr 0, .int x3]) (st' := [.int 0, .ref 9, .ref 0]) (h' := mw φ1) rfl ?_
      refine qr_ia (v := φ1 9 0) hC rfl rfl (by decide) rfl ?_
      refine qr_s hC (n := 3) (pc' := 123) (ls' := [.ref 0, .int x1, .retAddr 0, .int x3]) (st' := [.int 0, .ref 10, .int (φ1 9 0), .ref 0]) (h' := mw φ1) rfl ?_
      refine qr_ia (v := φ1 10 0) hC rfl rfl (by decide) rfl ?_
      obtain ⟨y1, φ2, hy, hs⟩ := qb2_s hs
      refine qr_c (j := 95) (as := [.ref 0, .int (φ1 9 0), .int (φ1 10 0)]) (rest := []) (v := some (.int y1)) (h1 := mw φ2) hC rfl rfl qC_95 rfl rfl (mo_worked_n F d φ1 (φ1 9 0) (φ1 10 0) _ (by omega) hy) ?_
      show qm_Rn (d + 1) 104 127 [.ref 0, .int x1, .retAddr 0, .int x3] [.int y1] (mw φ2) _
      refine qr_s hC (n := 4) (pc' := 133) (ls' := [.ref 0, .int x1, .retAddr 0, .int y1]) (st' := [.int (-1), .int (φ2 0 38)]) (h' := mw φ2) rfl ?_
      refine qr_ne2 (tgt := 149) hC rfl (by decide) rfl (fun hc => ?_) (fun hc => ?_)
      · rw [if_pos hc] at hs
        refine qr_s hC (n := 2) (pc' := 153) (ls' := [.ref 0, .int x1, .retAddr 0, .int y1]) (st' := [.int (φ2 0 38)]) (h' := mw φ2) rfl ?_
        have hs := Option.some.inj hs
        subst hs
        exact qr_r hC rfl rfl
      · rw [if_neg hc] at hs
        refine qr_s hC (n := 2) (pc' := 138) (ls' := [.ref 0, .int x1, .retAddr 0, .int y1]) (st' := [.int y1, .ref 0]) (h' := mw φ2) rfl ?_
        refine qr_ne1 (tgt := 145) hC rfl (by decide) rfl (fun hc => ?_) (fun hc => ?_)
        · rw [if_pos hc] at hs
          refine qr_s hC (n := 4) (pc' := 153) (ls' := [.ref 0, .int x1, .retAddr 0, .int y1]) (st' := [.int 0]) (h' := mw (qm_u φ2 0 38 0)) rfl ?_
          have hs := Option.some.inj hs
          subst hs
          exact qr_r hC rfl rfl
        · rw [if_neg hc] at hs
          refine qr_s hC (n := 5) (pc' := 153) (ls' := [.ref 0, .int x1, .retAddr 0, .int y1]) (st' := [.int 1]) (h' := mw (qm_u φ2 0 38 1)) rfl ?_
          have hs := Option.some.inj hs
          subst hs
          exact qr_r hC rfl rfl
    · rw [if_neg hc] at hs
      refine qr_s hC (n := 8) (pc' := 80) (ls' := [.ref 0, .int x1, .retAddr 0, .int x3]) (st' := [.int x3, .int x1, .ref 0, .int (3 + x3), .ref 17]) (h' := mw φ) rfl ?_
      obtain ⟨y2, hy, hs⟩ := qb1_s hs
      refine qr_c (j := 84) (as := [.ref 0, .int x1, .int x3]) (rest := [.int (3 + x3), .ref 17]) (v := some (.int y2)) (h1 := mw φ) hC rfl rfl qC_84 rfl rfl (mo_holeIn_n F d φ x1 x3 _ (by omega) hy) ?_
      show qm_Rn (d + 1) 104 83 [.ref 0, .int x1, .retAddr 0, .int x3] [.int y2, .int (3 + x3), .ref 17] (mw φ) _
      obtain ⟨hq, hs⟩ := qg_s hs
      refine qr_is (h' := mw (qm_u φ 17 ((3 + x3).toNatClampNeg) y2)) hC rfl rfl hq rfl ?_
      refine qr_s hC (n := 2) (pc' := 60) (ls' := [.ref 0, .int x1, .retAddr 0, .int (x3 + 1)]) (st' := []) (h' := mw (qm_u φ 17 ((3 + x3).toNatClampNeg) y2)) rfl ?_
      exact ih (qm_u φ 17 ((3 + x3).toNatClampNeg) y2) x1 (x3 + 1) _ hs
set_option maxRecDepth 100000 in
theorem mo_ran_L23_n (F d : Nat) (hd : 46 ≤ d) : ∀ (n : Nat) (φ : qm_F) (x1 : Int32) (x2 : Int32) (x3 : Int32) (r : (Int32 × qm_F)), mo_ran_L23 F n φ x1 x2 x3 = some r → qm_Rn d 104 23 [.ref 0, .int x1, .int x2, .int x3] [] (mw φ) (some (.int r.1), mw r.2) := by
  obtain ⟨d, rfl⟩ : ∃ e, d = e + 1 := ⟨d - 1, by omega⟩
  have hC := qC_104
  intro n
  induction n with
  | zero => intro φ x1 x2 x3 r hs; simp [mo_ran_L23] at hs
  | succ n ih =>
    intro φ x1 x2 x3 r hs
    rw [mo_ran_L23] at hs
    refine qr_s hC (n := 4) (pc' := 29) (ls' := [.ref 0, .int x1, .int x2, .int x3]) (st' := [.int 1, .ref 2, .int x3]) (h' := mw φ) rfl ?_
    refine qr_ia (v := φ 2 1) hC rfl rfl (by decide) rfl ?_
    refine qr_ge2 (tgt := 58) hC rfl (by decide) rfl (fun hc => ?_) (fun hc => ?_)
    · rw [if_pos hc] at hs
      refine qr_s hC (n := 2) (pc' := 60) (ls' := [.ref 0, .int x1, .int x2, .int 0]) (st' := []) (h' := mw φ) rfl ?_
      exact qr_w (a := [.ref 0, .int x1, .retAddr 0, .int 0]) ⟨Or.inr rfl, Or.inr rfl, Or.inl rfl, Or.inr rfl, trivial⟩ (mo_ran_L60_n F (d + 1) (by omega) F φ x1 0 _ hs)
    · rw [if_neg hc] at hs
      refine qr_s hC (n := 9) (pc' := 46) (ls' := [.ref 0, .int x1, .int x2, .int x3]) (st' := [.int 1, .ref 2, .int 0, .int x2, .ref 0, .int x3, .ref 17]) (h' := mw φ) rfl ?_
      refine qr_ia (v := φ 2 1) hC rfl rfl (by decide) rfl ?_
      refine qr_s hC (n := 1) (pc' := 48) (ls' := [.ref 0, .int x1, .int x2, .int x3]) (st' := [.int x3, .int (φ 2 1), .int 0, .int x2, .ref 0, .int x3, .ref 17]) (h' := mw φ) rfl ?_
      obtain ⟨y1, hy, hs⟩ := qb1_s hs
      refine qr_c (j := 83) (as := [.ref 0, .int x2, .int 0, .int (φ 2 1), .int x3]) (rest := [.int x3, .ref 17]) (v := some (.int y1)) (h1 := mw φ) hC rfl rfl qC_83 rfl rfl (mo_partOf_n F d φ x2 0 (φ 2 1) x3 _ (by omega) hy) ?_
      show qm_Rn (d + 1) 104 51 [.ref 0, .int x1, .int x2, .int x3] [.int y1, .int x3, .ref 17] (mw φ) _
      obtain ⟨hq, hs⟩ := qg_s hs
      refine qr_is (h' := mw (qm_u φ 17 x3.toNatClampNeg y1)) hC rfl rfl hq rfl ?_
      refine qr_s hC (n := 2) (pc' := 23) (ls' := [.ref 0, .int x1, .int x2, .int (x3 + 1)]) (st' := []) (h' := mw (qm_u φ 17 x3.toNatClampNeg y1)) rfl ?_
      exact ih (qm_u φ 17 x3.toNatClampNeg y1) x1 x2 (x3 + 1) _ hs
set_option maxRecDepth 100000 in
theorem mo_ran_L2_n (F d : Nat) (hd : 46 ≤ d) : ∀ (n : Nat) (φ : qm_F) (x1 : Int32) (x2 : Int32) (x3 : Int32) (r : (Int32 × qm_F)), mo_ran_L2 F n φ x1 x2 x3 = some r → qm_Rn d 104 2 [.ref 0, .int x1, .int x2, .int x3] [] (mw φ) (some (.int r.1), mw r.2) := by
  obtain ⟨d, rfl⟩ : ∃ e, d = e + 1 := ⟨d - 1, by omega⟩
  have hC := qC_104
  intro n
  induction n with
  | zero => intro φ x1 x2 x3 r hs; simp [mo_ran_L2] at hs
  | succ n ih =>
    intro φ x1 x2 x3 r hs
    rw [mo_ran_L2] at hs
    refine qr_s hC (n := 2) (pc' := 5) (ls' := [.ref 0, .int x1, .int x2, .int x3]) (st' := [.int 15, .int x3]) (h' := mw φ) rfl ?_
    refine qr_ge2 (tgt := 21) hC rfl (by decide) rfl (fun hc => ?_) (fun hc => ?_)
    · rw [if_pos hc] at hs
      refine qr_s hC (n := 2) (pc' := 23) (ls' := [.ref 0, .int x1, .int x2, .int 0]) (st' := []) (h' := mw φ) rfl ?_
      exact mo_ran_L23_n F (d + 1) (by omega) F φ x1 x2 0 _ hs
    · rw [if_neg hc] at hs
      refine qr_s hC (n := 4) (pc' := 14) (ls' := [.ref 0, .int x1, .int x2, .int x3]) (st' := [.int 0, .int x3, .ref 17]) (h' := mw φ) rfl ?_
      obtain ⟨hq, hs⟩ := qg_s hs
      refine qr_is (h' := mw (qm_u φ 17 x3.toNatClampNeg 0)) hC rfl rfl hq rfl ?_
      refine qr_s hC (n := 2) (pc' := 2) (ls' := [.ref 0, .int x1, .int x2, .int (x3 + 1)]) (st' := []) (h' := mw (qm_u φ 17 x3.toNatClampNeg 0)) rfl ?_
      exact ih (qm_u φ 17 x3.toNatClampNeg 0) x1 x2 (x3 + 1) _ hs
set_option maxRecDepth 100000 in
theorem mo_ran_n (F d : Nat) (φ : qm_F) (x1 : Int32) (x2 : Int32) (r : (Int32 × qm_F)) (hd : 46 ≤ d) (hs : mo_ran F φ x1 x2 = some r) : qm_Rn d 104 0 [.ref 0, .int x1, .int x2, .retAddr 0] [] (mw φ) (some (.int r.1), mw r.2) := by
  obtain ⟨d, rfl⟩ : ∃ e, d = e + 1 := ⟨d - 1, by omega⟩
  have hC := qC_104
  unfold mo_ran at hs
  refine qr_s hC (n := 2) (pc' := 2) (ls' := [.ref 0, .int x1, .int x2, .int 0]) (st' := []) (h' := mw φ) rfl ?_
  exact mo_ran_L2_n F (d + 1) (by omega) F φ x1 x2 0 _ hs
