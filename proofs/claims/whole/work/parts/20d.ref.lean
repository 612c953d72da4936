/-- SketchFillerModel.verdict(II)I -/
def mo_verdict (F : Nat) (φ : qm_F) (x1 : Int32) (x2 : Int32) : Option (Int32 × qm_F) :=
  qb1 (mo_isGuess F (qm_u φ 0 0 0) x1) fun y1 =>
  if y1 = 0 then
    some ((-1), (qm_u φ 0 0 0))
  else
    qb1 (mo_isInput F (qm_u φ 0 0 0) x2) fun y2 =>
    if y2 = 0 then
      some ((-1), (qm_u φ 0 0 0))
    else
      qb2 (mo_ran F (qm_u φ 0 0 0) x1 x2) fun y3 φ1 =>
      some (y3, φ1)
set_option maxRecDepth 100000 in
theorem mo_verdict_n (F d : Nat) (φ : qm_F) (x1 : Int32) (x2 : Int32) (r : (Int32 × qm_F)) (hd : 47 ≤ d) (hs : mo_verdict F φ x1 x2 = some r) : qm_Rn d 105 0 [.ref 0, .int x1, .int x2] [] (mw φ) (some (.int r.1), mw r.2) := by
  obtain ⟨d, rfl⟩ : ∃ e, d = e + 1 := ⟨d - 1, by omega⟩
  have hC := qC_105
  unfold mo_verdict at hs
  refine qr_s hC (n := 5) (pc' := 7) (ls' := [.ref 0, .int x1, .int x2]) (st' := [.int x1, .ref 0]) (h' := mw (qm_u φ 0 0 0)) rfl ?_
  obtain ⟨y1, hy, hs⟩ := qb1_s hs
  refine qr_c (j := 80) (as := [.ref 0, .int x1]) (rest := []) (v := some (.int y1)) (h1 := mw (qm_u φ 0 0 0)) hC rfl rfl qC_80 rfl rfl (mo_isGuess_n F d (qm_u φ 0 0 0) x1 _ (by omega) hy) ?_
  show qm_Rn (d + 1) 105 10 [.ref 0, .int x1, .int x2] [.int y1] (mw (qm_u φ 0 0 0)) _
  refine qr_eq1 (tgt := 30) hC rfl (by decide) rfl (fun hc => ?_) (fun hc => ?_)
  · rw [if_pos hc] at hs
    refine qr_s hC (n := 1) (pc' := 31) (ls' := [.ref 0, .int x1, .int x2]) (st' := [.int (-1)]) (h' := mw (qm_u φ 0 0 0)) rfl ?_
    have hs := Option.some.inj hs
    subst hs
    exact qr_r hC rfl rfl
  · rw [if_neg hc] at hs
    refine qr_s hC (n := 2) (pc' := 15) (ls' := [.ref 0, .int x1, .int x2]) (st' := [.int x2, .ref 0]) (h' := mw (qm_u φ 0 0 0)) rfl ?_
    obtain ⟨y2, hy, hs⟩ := qb1_s hs
    refine qr_c (j := 81) (as := [.ref 0, .int x2]) (rest := []) (v := some (.int y2)) (h1 := mw (qm_u φ 0 0 0)) hC rfl rfl qC_81 rfl rfl (mo_isInput_n F d (qm_u φ 0 0 0) x2 _ (by omega) hy) ?_
    show qm_Rn (d + 1) 105 18 [.ref 0, .int x1, .int x2] [.int y2] (mw (qm_u φ 0 0 0)) _
    refine qr_eq1 (tgt := 30) hC rfl (by decide) rfl (fun hc => ?_) (fun hc => ?_)
    · rw [if_pos hc] at hs
      refine qr_s hC (n := 1) (pc' := 31) (ls' := [.ref 0, .int x1, .int x2]) (st' := [.int (-1)]) (h' := mw (qm_u φ 0 0 0)) rfl ?_
      have hs := Option.some.inj hs
      subst hs
      exact qr_r hC rfl rfl
    · rw [if_neg hc] at hs
      refine qr_s hC (n := 3) (pc' := 24) (ls' := [.ref 0, .int x1, .int x2]) (st' := [.int x2, .int x1, .ref 0]) (h' := mw (qm_u φ 0 0 0)) rfl ?_
      obtain ⟨y3, φ1, hy, hs⟩ := qb2_s hs
      refine qr_c (j := 104) (as := [.ref 0, .int x1, .int x2]) (rest := []) (v := some (.int y3)) (h1 := mw φ1) hC rfl rfl qC_104 rfl rfl (mo_ran_n F d (qm_u φ 0 0 0) x1 x2 _ (by omega) hy) ?_
      show qm_Rn (d + 1) 105 27 [.ref 0, .int x1, .int x2] [.int y3] (mw φ1) _
      refine qr_s hC (n := 1) (pc' := 31) (ls' := [.ref 0, .int x1, .int x2]) (st' := [.int y3]) (h' := mw φ1) rfl ?_
      have hs := Option.some.inj hs
      subst hs
      exact qr_r hC rfl rfl
/-- SketchFillerModel.steps(II)I -/
def mo_steps2 (F : Nat) (φ : qm_F) (x1 : Int32) (x2 : Int32) : Option (Int32 × qm_F) :=
  qb1 (mo_isGuess F (qm_u φ 0 0 0) x1) fun y1 =>
  if y1 = 0 then
    some ((-1), (qm_u φ 0 0 0))
  else
    qb1 (mo_isInput F (qm_u φ 0 0 0) x2) fun y2 =>
    if ¬ y2 = 0 then
      qb2 (mo_ran F (qm_u φ 0 0 0) x1 x2) fun y3 φ1 =>
      if y3 < 0 then
        some ((-1), φ1)
      else
        some (φ1 0 37, φ1)
    else
      some ((-1), (qm_u φ 0 0 0))
set_option maxRecDepth 100000 in
theorem mo_steps2_n (F d : Nat) (φ : qm_F) (x1 : Int32) (x2 : Int32) (r : (Int32 × qm_F)) (hd : 47 ≤ d) (hs : mo_steps2 F φ x1 x2 = some r) : qm_Rn d 106 0 [.ref 0, .int x1, .int x2, .retAddr 0] [] (mw φ) (some (.int r.1), mw r.2) := by
  obtain ⟨d, rfl⟩ : ∃ e, d = e + 1 := ⟨d - 1, by omega⟩
  have hC := qC_106
  unfold mo_steps2 at hs
  refine qr_s hC (n := 5) (pc' := 7) (ls' := [.ref 0, .int x1, .int x2, .retAddr 0]) (st' := [.int x1, .ref 0]) (h' := mw (qm_u φ 0 0 0)) rfl ?_
  obtain ⟨y1, hy, hs⟩ := qb1_s hs
  refine qr_c (j := 80) (as := [.ref 0, .int x1]) (rest := []) (v := some (.int y1)) (h1 := mw (qm_u φ 0 0 0)) hC rfl rfl qC_80 rfl rfl (mo_isGuess_n F d (qm_u φ 0 0 0) x1 _ (by omega) hy) ?_
  show qm_Rn (d + 1) 106 10 [.ref 0, .int x1, .int x2, .retAddr 0] [.int y1] (mw (qm_u φ 0 0 0)) _
  refine qr_eq1 (tgt := 21) hC rfl (by decide) rfl (fun hc => ?_) (fun hc => ?_)
  · rw [if_pos hc] at hs
    refine qr_s hC (n := 1) (pc' := 22) (ls' := [.ref 0, .int x1, .int x2, .retAddr 0]) (st' := [.int (-1)]) (h' := mw (qm_u φ 0 0 0)) rfl ?_
    have hs := Option.some.inj hs
    subst hs
    exact qr_r hC rfl rfl
  · rw [if_neg hc] at hs
    refine qr_s hC (n := 2) (pc' := 15) (ls' := [.ref 0, .int x1, .int x2, .retAddr 0]) (st' := [.int x2, .ref 0]) (h' := mw (qm_u φ 0 0 0)) rfl ?_
    obtain ⟨y2, hy, hs⟩ := qb1_s hs
    refine qr_c (j := 81) (as := [.ref 0, .int x2]) (rest := []) (v := some (.int y2)) (h1 := mw (qm_u φ 0 0 0)) hC rfl rfl qC_81 rfl rfl (mo_isInput_n F d (qm_u φ 0 0 0) x2 _ (by omega) hy) ?_
    show qm_Rn (d + 1) 106 18 [.ref 0, .int x1, .int x2, .retAddr 0] [.int y2] (mw (qm_u φ 0 0 0)) _
    refine qr_ne1 (tgt := 23) hC rfl (by decide) rfl (fun hc => ?_) (fun hc => ?_)
    · rw [if_pos hc] at hs
      refine qr_s hC (n := 3) (pc' := 26) (ls' := [.ref 0, .int x1, .int x2, .retAddr 0]) (st' := [.int x2, .int x1, .ref 0]) (h' := mw (qm_u φ 0 0 0)) rfl ?_
      obtain ⟨y3, φ1, hy, hs⟩ := qb2_s hs
      refine qr_c (j := 104) (as := [.ref 0, .int x1, .int x2]) (rest := []) (v := some (.int y3)) (h1 := mw φ1) hC rfl rfl qC_104 rfl rfl (mo_ran_n F d (qm_u φ 0 0 0) x1 x2 _ (by omega) hy) ?_
      show qm_Rn (d + 1) 106 29 [.ref 0, .int x1, .int x2, .retAddr 0] [.int y3] (mw φ1) _
      refine qr_s hC (n := 2) (pc' := 31) (ls' := [.ref 0, .int x1, .int x2, .int y3]) (st' := [.int y3]) (h' := mw φ1) rfl ?_
      refine qr_lt1 (tgt := 41) hC rfl (by decide) rfl (fun hc => ?_) (fun hc => ?_)
      · rw [if_pos hc] at hs
        refine qr_s hC (n := 1) (pc' := 42) (ls' := [.ref 0, .int x1, .int x2, .int y3]) (st' := [.int (-1)]) (h' := mw φ1) rfl ?_
        have hs := Option.some.inj hs
        subst hs
        exact qr_r hC rfl rfl
      · rw [if_neg hc] at hs
        refine qr_s hC (n := 3) (pc' := 42) (ls' := [.ref 0, .int x1, .int x2, .int y3]) (st' := [.int (φ1 0 37)]) (h' := mw φ1) rfl ?_
        have hs := Option.some.inj hs
        subst hs
        exact qr_r hC rfl rfl
    · rw [if_neg hc] at hs
      refine qr_s hC (n := 1) (pc' := 22) (ls' := [.ref 0, .int x1, .int x2, .retAddr 0]) (st' := [.int (-1)]) (h' := mw (qm_u φ 0 0 0)) rfl ?_
      have hs := Option.some.inj hs
      subst hs
      exact qr_r hC rfl rfl
/-- SketchFillerModel.ends(III)I -/
def mo_ends (F : Nat) (φ : qm_F) (x1 : Int32) (x2 : Int32) (x3 : Int32) : Option (Int32 × qm_F) :=
  qb1 (mo_isGuess F (qm_u φ 0 0 0) x1) fun y1 =>
  if y1 = 0 then
    some ((-1), (qm_u φ 0 0 0))
  else
    qb1 (mo_isInput F (qm_u φ 0 0 0) x2) fun y2 =>
    if y2 = 0 then
      some ((-1), (qm_u φ 0 0 0))
    else
      qb1 (mo_within F (qm_u φ 0 0 0) (Int32.toInt64 x3) 0 (Int32.toInt64 ((φ 2 3) - 1))) fun y3 =>
      if ¬ y3 = 0 then
        qb2 (mo_ran F (qm_u φ 0 0 0) x1 x2) fun y4 φ1 =>
        if y4 ≤ 1 then
          qg (qm_in (8 + x3) 15) <|
          some (φ1 17 ((8 + x3).toNatClampNeg), φ1)
        else
          some ((-2), φ1)
      else
        some ((-1), (qm_u φ 0 0 0))
set_option maxRecDepth 100000 in
theorem mo_ends_n (F d : Nat) (φ : qm_F) (x1 : Int32) (x2 : Int32) (x3 : Int32) (r : (Int32 × qm_F)) (hd : 47 ≤ d) (hs : mo_ends F φ x1 x2 x3 = some r) : qm_Rn d 107 0 [.ref 0, .int x1, .int x2, .int x3] [] (mw φ) (some (.int r.1), mw r.2) := by
  obtain ⟨d, rfl⟩ : ∃ e, d = e + 1 := ⟨d - 1, by omega⟩
  have hC := qC_107
  unfold mo_ends at hs
  refine qr_s hC (n := 5) (pc' := 7) (ls' := [.ref 0, .int x1, .int x2, .int x3]) (st' := [.int x1, .ref 0]) (h' := mw (qm_u φ 0 0 0)) rfl ?_
  obtain ⟨y1, hy, hs⟩ := qb1_s hs
  refine qr_c (j := 80) (as := [.ref 0, .int x1]) (rest := []) (v := some (.int y1)) (h1 := mw (qm_u φ 0 0 0)) hC rfl rfl qC_80 rfl rfl (mo_isGuess_n F d (qm_u φ 0 0 0) x1 _ (by omega) hy) ?_
  show qm_Rn (d + 1) 107 10 [.ref 0, .int x1, .int x2, .int x3] [.int y1] (mw (qm_u φ 0 0 0)) _
  refine qr_eq1 (tgt := 39) hC rfl (by decide) rfl (fun hc => ?_) (fun hc => ?_)
  · rw [if_pos hc] at hs
    refine qr_s hC (n := 1) (pc' := 40) (ls' := [.ref 0, .int x1, .int x2, .int x3]) (st' := [.int (-1)]) (h' := mw (qm_u φ 0 0 0)) rfl ?_
    have hs := Option.some.inj hs
    subst hs
    exact qr_r hC rfl rfl
  · rw [if_neg hc] at hs
    refine qr_s hC (n := 2) (pc' := 15) (ls' := [.ref 0, .int x1, .int x2, .int x3]) (st' := [.int x2, .ref 0]) (h' := mw (qm_u φ 0 0 0)) rfl ?_
    obtain ⟨y2, hy, hs⟩ := qb1_s hs
    refine qr_c (j := 81) (as := [.ref 0, .int x2]) (rest := []) (v := some (.int y2)) (h1 := mw (qm_u φ 0 0 0)) hC rfl rfl qC_81 rfl rfl (mo_isInput_n F d (qm_u φ 0 0 0) x2 _ (by omega) hy) ?_
    show qm_Rn (d + 1) 107 18 [.ref 0, .int x1, .int x2, .int x3] [.int y2] (mw (qm_u φ 0 0 0)) _
    refine qr_eq1 (tgt := 39) hC rfl (by decide) rfl (fun hc => ?_) (fun hc => ?_)
    · rw [if_pos hc] at hs
      refine qr_s hC (n := 1) (pc' := 40) (ls' := [.ref 0, .int x1, .int x2, .int x3]) (st' := [.int (-1)]) (h' := mw (qm_u φ 0 0 0)) rfl ?_
      have hs := Option.some.inj hs
      subst hs
      exact qr_r hC rfl rfl
    · rw [if_neg hc] at hs
      refine qr_s hC (n := 6) (pc' := 29) (ls' := [.ref 0, .int x1, .int x2, .int x3]) (st' := [.int 3, .ref 2, .long 0, .long (Int32.toInt64 x3)]) (h' := mw (qm_u φ 0 0 0)) rfl ?_
      refine qr_ia (v := φ 2 3) hC rfl rfl (by decide) rfl ?_
      refine qr_s hC (n := 3) (pc' := 33) (ls' := [.ref 0, .int x1, .int x2, .int x3]) (st' := [.long (Int32.toInt64 ((φ 2 3) - 1)), .long 0, .long (Int32.toInt64 x3)]) (h' := mw (qm_u φ 0 0 0)) rfl ?_
      obtain ⟨y3, hy, hs⟩ := qb1_s hs
      refine qr_c (j := 31) (as := [.long (Int32.toInt64 x3), .long 0, .long (Int32.toInt64 ((φ 2 3) - 1))]) (rest := []) (v := some (.int y3)) (h1 := mw (qm_u φ 0 0 0)) hC rfl rfl qC_31 rfl rfl (mo_within_n F d (qm_u φ 0 0 0) (Int32.toInt64 x3) 0 (Int32.toInt64 ((φ 2 3) - 1)) _ (by omega) hy) ?_
      show qm_Rn (d + 1) 107 36 [.ref 0, .int x1, .int x2, .int x3] [.int y3] (mw (qm_u φ 0 0 0)) _
      refine qr_ne1 (tgt := 41) hC rfl (by decide) rfl (fun hc => ?_) (fun hc => ?_)
      · rw [if_pos hc] at hs
        refine qr_s hC (n := 3) (pc' := 44) (ls' := [.ref 0, .int x1, .int x2, .int x3]) (st' := [.int x2, .int x1, .ref 0]) (h' := mw (qm_u φ 0 0 0)) rfl ?_
        obtain ⟨y4, φ1, hy, hs⟩ := qb2_s hs
        refine qr_c (j := 104) (as := [.ref 0, .int x1, .int x2]) (rest := []) (v := some (.int y4)) (h1 := mw φ1) hC rfl rfl qC_104 rfl rfl (mo_ran_n F d (qm_u φ 0 0 0) x1 x2 _ (by omega) hy) ?_
        show qm_Rn (d + 1) 107 47 [.ref 0, .int x1, .int x2, .int x3] [.int y4] (mw φ1) _
        refine qr_s hC (n := 1) (pc' := 48) (ls' := [.ref 0, .int x1, .int x2, .int x3]) (st' := [.int 1, .int y4]) (h' := mw φ1) rfl ?_
        refine qr_le2 (tgt := 56) hC rfl (by decide) rfl (fun hc => ?_) (fun hc => ?_)
        · rw [if_pos hc] at hs
          refine qr_s hC (n := 5) (pc' := 64) (ls' := [.ref 0, .int x1, .int x2, .int x3]) (st' := [.int (8 + x3), .ref 17]) (h' := mw φ1) rfl ?_
          obtain ⟨hq, hs⟩ := qg_s hs
          refine qr_ia (v := φ1 17 ((8 + x3).toNatClampNeg)) hC rfl rfl hq rfl ?_
          have hs := Option.some.inj hs
          subst hs
          exact qr_r hC rfl rfl
        · rw [if_neg hc] at hs
          refine qr_s hC (n := 2) (pc' := 65) (ls' := [.ref 0, .int x1, .int x2, .int x3]) (st' := [.int (-2)]) (h' := mw φ1) rfl ?_
          have hs := Option.some.inj hs
          subst hs
          exact qr_r hC rfl rfl
      · rw [if_neg hc] at hs
        refine qr_s hC (n := 1) (pc' := 40) (ls' := [.ref 0, .int x1, .int x2, .int x3]) (st' := [.int (-1)]) (h' := mw (qm_u φ 0 0 0)) rfl ?_
        have hs := Option.some.inj hs
        subst hs
        exact qr_r hC rfl rfl
/-- SketchFillerModel.verdictOf(II)I -/
def mo_verdictOf_L67 (F : Nat) (φ : qm_F) (x1 : Int32) (x2 : Int32) : Option (Int32 × qm_F) :=
  qg (qm_in ((128 * x1) + x2) 16384) <|
  some (φ 19 (((128 * x1) + x2).toNatClampNeg), φ)
def mo_verdictOf_L9 (F : Nat) : Nat → Nat → qm_F → Int32 → Int32 → Int32 → Int32 → Option (Int32 × qm_F)
  | 0, _, _, _, _, _, _ => none
  | n + 1, t, φ, x1, x2, x3, x4 =>
    if t = 0 then
      qb1 (mo_guesses F φ) fun y1 =>
      if y1 ≤ x3 then
        mo_verdictOf_L67 F (qm_u φ 0 40 1) x1 x2
      else
        mo_verdictOf_L9 F n 1 φ x1 x2 x3 0
    else
    qb1 (mo_inputs F φ) fun y1 =>
    if y1 ≤ x4 then
      mo_verdictOf_L9 F n 0 φ x1 x2 (x3 + 1) 0
    else
      qb2 (mo_ran F φ x3 x4) fun y2 φ1 =>
      qg (qm_in ((128 * x3) + x4) 16384) <|
      mo_verdictOf_L9 F n 1 (qm_u φ1 19 (((128 * x3) + x4).toNatClampNeg) (qm_by (qm_by y2))) x1 x2 x3 (x4 + 1)
def mo_verdictOf (F : Nat) (φ : qm_F) (x1 : Int32) (x2 : Int32) : Option (Int32 × qm_F) :=
  if ¬ (φ 0 40) = 0 then
    mo_verdictOf_L67 F φ x1 x2
  else
    mo_verdictOf_L9 F F 0 φ x1 x2 0 0
set_option maxRecDepth 100000 in
theorem mo_verdictOf_L67_n (F d : Nat) (hd : 47 ≤ d) (φ : qm_F) (x1 : Int32) (x2 : Int32) (r : (Int32 × qm_F)) (hs : mo_verdictOf_L67 F φ x1 x2 = some r) : qm_Rn d 108 67 [.ref 0, .int x1, .int x2, .retAddr 0, .retAddr 0] [] (mw φ) (some (.int r.1), mw r.2) := by
  obtain ⟨d, rfl⟩ : ∃ e, d = e + 1 := ⟨d - 1, by omega⟩
  have hC := qC_108
  unfold mo_verdictOf_L67 at hs
  refine qr_s hC (n := 7) (pc' := 78) (ls' := [.ref 0, .int x1, .int x2, .retAddr 0, .retAddr 0]) (st' := [.int ((128 * x1) + x2), .ref 19]) (h' := mw φ) rfl ?_
  obtain ⟨hq, hs⟩ := qg_s hs
  refine qr_ba (v := φ 19 (((128 * x1) + x2).toNatClampNeg)) hC rfl rfl hq rfl ?_
  have hs := Option.some.inj hs
  subst hs
  exact qr_r hC rfl rfl
set_option maxRecDepth 100000 in
theorem mo_verdictOf_L9_n0 (F d : Nat) (hd : 47 ≤ d) : ∀ (n t : Nat) (φ : qm_F) (x1 : Int32) (x2 : Int32) (x3 : Int32) (x4 : Int32) (r : (Int32 × qm_F)), mo_verdictOf_L9 F n t φ x1 x2 x3 x4 = some r → (t = 0 → qm_Rn d 108 9 [.ref 0, .int x1, .int x2, .int x3, .retAddr 0] [] (mw φ) (some (.int r.1), mw r.2)) ∧ (t ≠ 0 → qm_Rn d 108 20 [.ref 0, .int x1, .int x2, .int x3, .int x4] [] (mw φ) (some (.int r.1), mw r.2)) := by
  obtain ⟨d, rfl⟩ : ∃ e, d = e + 1 := ⟨d - 1, by omega⟩
  have hC := qC_108
  intro n
  induction n with
  | zero => intro t φ x1 x2 x3 x4 r hs; simp [mo_verdictOf_L9] at hs
  | succ n ihh =>
    intro t φ x1 x2 x3 x4 r hs
    rw [mo_verdictOf_L9] at hs
    have ih0 : ∀ (φ : qm_F) (x1 : Int32) (x2 : Int32) (x3 : Int32) (x4 : Int32) (r : (Int32 × qm_F)), mo_verdictOf_L9 F n 0 φ x1 x2 x3 x4 = some r → _ := fun φ x1 x2 x3 x4 r q => (ihh 0 φ x1 x2 x3 x4 r q).1 rfl
    have ih1 : ∀ (φ : qm_F) (x1 : Int32) (x2 : Int32) (x3 : Int32) (x4 : Int32) (r : (Int32 × qm_F)), mo_verdictOf_L9 F n 1 φ x1 x2 x3 x4 = some r → _ := fun φ x1 x2 x3 x4 r q => (ihh 1 φ x1 x2 x3 x4 r q).2 (by decide)
    refine ⟨fun ht => ?_, fun ht => ?_⟩
    · subst ht
      rw [if_pos rfl] at hs
      refine qr_s hC (n := 2) (pc' := 11) (ls' := [.ref 0, .int x1, .int x2, .int x3, .retAddr 0]) (st' := [.ref 0, .int x3]) (h' := mw φ) rfl ?_
      obtain ⟨y1, hy, hs⟩ := qb1_s hs
      refine qr_c (j := 78) (as := [.ref 0]) (rest := [.int x3]) (v := some (.int y1)) (h1 := mw φ) hC rfl rfl qC_78 rfl rfl (mo_guesses_n F d φ _ (by omega) hy) ?_
      show qm_Rn (d + 1) 108 14 [.ref 0, .int x1, .int x2, .int x3, .retAddr 0] [.int y1, .int x3] (mw φ) _
      refine qr_ge2 (tgt := 62) hC rfl (by decide) rfl (fun hc => ?_) (fun hc => ?_)
      · rw [if_pos hc] at hs
        refine qr_s hC (n := 3) (pc' := 67) (ls' := [.ref 0, .int x1, .int x2, .int x3, .retAddr 0]) (st' := []) (h' := mw (qm_u φ 0 40 1)) rfl ?_
        exact qr_w (a := [.ref 0, .int x1, .int x2, .retAddr 0, .retAddr 0]) ⟨Or.inr rfl, Or.inr rfl, Or.inr rfl, Or.inl rfl, Or.inr rfl, trivial⟩ (mo_verdictOf_L67_n F (d + 1) (by omega) (qm_u φ 0 40 1) x1 x2 _ hs)
      · rw [if_neg hc] at hs
        refine qr_s hC (n := 2) (pc' := 20) (ls' := [.ref 0, .int x1, .int x2, .int x3, .int 0]) (st' := []) (h' := mw φ) rfl ?_
        exact (ih1 φ x1 x2 x3 0 _ hs)
    · have ht0 := ht
      rw [if_neg ht0] at hs
      refine qr_s hC (n := 2) (pc' := 23) (ls' := [.ref 0, .int x1, .int x2, .int x3, .int x4]) (st' := [.ref 0, .int x4]) (h' := mw φ) rfl ?_
      obtain ⟨y1, hy, hs⟩ := qb1_s hs
      refine qr_c (j := 79) (as := [.ref 0]) (rest := [.int x4]) (v := some (.int y1)) (h1 := mw φ) hC rfl rfl qC_79 rfl rfl (mo_inputs_n F d φ _ (by omega) hy) ?_
      show qm_Rn (d + 1) 108 26 [.ref 0, .int x1, .int x2, .int x3, .int x4] [.int y1, .int x4] (mw φ) _
      refine qr_ge2 (tgt := 56) hC rfl (by decide) rfl (fun hc => ?_) (fun hc => ?_)
      · rw [if_pos hc] at hs
        refine qr_s hC (n := 2) (pc' := 9) (ls' := [.ref 0, .int x1, .int x2, .int (x3 + 1), .int x4]) (st' := []) (h' := mw φ) rfl ?_
        exact qr_w (a := [.ref 0, .int x1, .int x2, .int (x3 + 1), .retAddr 0]) ⟨Or.inr rfl, Or.inr rfl, Or.inr rfl, Or.inr rfl, Or.inl rfl, trivial⟩ (ih0 φ x1 x2 (x3 + 1) 0 _ hs)
      · rw [if_neg hc] at hs
        refine qr_s hC (n := 10) (pc' := 45) (ls' := [.ref 0, .int x1, .int x2, .int x3, .int x4]) (st' := [.int x4, .int x3, .ref 0, .int ((128 * x3) + x4), .ref 19]) (h' := mw φ) rfl ?_
        obtain ⟨y2, φ1, hy, hs⟩ := qb2_s hs
        refine qr_c (j := 104) (as := [.ref 0, .int x3, .int x4]) (rest := [.int ((128 * x3) + x4), .ref 19]) (v := some (.int y2)) (h1 := mw φ1) hC rfl rfl qC_104 rfl rfl (mo_ran_n F d φ x3 x4 _ (by omega) hy) ?_
        show qm_Rn (d + 1) 108 48 [.ref 0, .int x1, .int x2, .int x3, .int x4] [.int y2, .int ((128 * x3) + x4), .ref 19] (mw φ1) _
        refine qr_s hC (n := 1) (pc' := 49) (ls' := [.ref 0, .int x1, .int x2, .int x3, .int x4]) (st' := [.int (qm_by y2), .int ((128 * x3) + x4), .ref 19]) (h' := mw φ1) rfl ?_
        obtain ⟨hq, hs⟩ := qg_s hs
        refine qr_bs (h' := mw (qm_u φ1 19 (((128 * x3) + x4).toNatClampNeg) (qm_by (qm_by y2)))) hC rfl rfl hq rfl ?_
        refine qr_s hC (n := 2) (pc' := 20) (ls' := [.ref 0, .int x1, .int x2, .int x3, .int (x4 + 1)]) (st' := []) (h' := mw (qm_u φ1 19 (((128 * x3) + x4).toNatClampNeg) (qm_by (qm_by y2)))) rfl ?_
        exact (ih1 (qm_u φ1 19 (((128 * x3) + x4).toNatClampNeg) (qm_by (qm_by y2))) x1 x2 x3 (x4 + 1) _ hs)
theorem mo_verdictOf_L9_n_t0 (F d : Nat) (hd : 47 ≤ d) (n : Nat) (φ : qm_F) (x1 : Int32) (x2 : Int32) (x3 : Int32) (x4 : Int32) (r : (Int32 × qm_F)) (hs : mo_verdictOf_L9 F n 0 φ x1 x2 x3 x4 = some r) : qm_Rn d 108 9 [.ref 0, .int x1, .int x2, .int x3, .retAddr 0] [] (mw φ) (some (.int r.1), mw r.2) := (mo_verdictOf_L9_n0 F d hd n 0 φ x1 x2 x3 x4 r hs).1 rfl
theorem mo_verdictOf_L9_n_t1 (F d : Nat) (hd : 47 ≤ d) (n : Nat) (φ : qm_F) (x1 : Int32) (x2 : Int32) (x3 : Int32) (x4 : Int32) (r : (Int32 × qm_F)) (hs : mo_verdictOf_L9 F n 1 φ x1 x2 x3 x4 = some r) : qm_Rn d 108 20 [.ref 0, .int x1, .int x2, .int x3, .int x4] [] (mw φ) (some (.int r.1), mw r.2) := (mo_verdictOf_L9_n0 F d hd n 1 φ x1 x2 x3 x4 r hs).2 (by decide)
set_option maxRecDepth 100000 in
theorem mo_verdictOf_n (F d : Nat) (φ : qm_F) (x1 : Int32) (x2 : Int32) (r : (Int32 × qm_F)) (hd : 47 ≤ d) (hs : mo_verdictOf F φ x1 x2 = some r) : qm_Rn d 108 0 [.ref 0, .int x1, .int x2, .retAddr 0, .retAddr 0] [] (mw φ) (some (.int r.1), mw r.2) := by
  obtain ⟨d, rfl⟩ : ∃ e, d = e + 1 := ⟨d - 1, by omega⟩
  have hC := qC_108
  unfold mo_verdictOf at hs
  refine qr_s hC (n := 2) (pc' := 4) (ls' := [.ref 0, .int x1, .int x2, .retAddr 0, .retAddr 0]) (st' := [.int (φ 0 40)]) (h' := mw φ) rfl ?_
  refine qr_ne1 (tgt := 67) hC rfl (by decide) rfl (fun hc => ?_) (fun hc => ?_)
  · rw [if_pos hc] at hs
    exact mo_verdictOf_L67_n F (d + 1) (by omega) φ x1 x2 _ hs
  · rw [if_neg hc] at hs
    refine qr_s hC (n := 2) (pc' := 9) (ls' := [.ref 0, .int x1, .int x2, .int 0, .retAddr 0]) (st' := []) (h' := mw φ) rfl ?_
    exact (mo_verdictOf_L9_n_t0 F (d + 1) (by omega) F φ x1 x2 0 0 _ hs)
/-- SketchFillerModel.refuterOf(I)I -/
def mo_refuterOf_L2 (F : Nat) : Nat → qm_F → Int32 → Int32 → Option (Int32 × qm_F)
  | 0, _, _, _ => none
  | n + 1, φ, x1, x2 =>
    qb1 (mo_inputs F φ) fun y1 =>
    if y1 ≤ x2 then
      some ((-1), φ)
    else
      qb2 (mo_verdictOf F φ x1 x2) fun y2 φ1 =>
      if y2 ≤ 0 then
        mo_refuterOf_L2 F n φ1 x1 (x2 + 1)
      else
        some (x2, φ1)
def mo_refuterOf (F : Nat) (φ : qm_F) (x1 : Int32) : Option (Int32 × qm_F) :=
  mo_refuterOf_L2 F F φ x1 0
set_option maxRecDepth 100000 in
theorem mo_refuterOf_L2_n (F d : Nat) (hd : 48 ≤ d) : ∀ (n : Nat) (φ : qm_F) (x1 : Int32) (x2 : Int32) (r : (Int32 × qm_F)), mo_refuterOf_L2 F n φ x1 x2 = some r → qm_Rn d 109 2 [.ref 0, .int x1, .int x2] [] (mw φ) (some (.int r.1), mw r.2) := by
  obtain ⟨d, rfl⟩ : ∃ e, d = e + 1 := ⟨d - 1, by omega⟩
  have hC := qC_109
  intro n
  induction n with
  | zero => intro φ x1 x2 r hs; simp [mo_refuterOf_L2] at hs
  | succ n ih =>
    intro φ x1 x2 r hs
    rw [mo_refuterOf_L2] at hs
    refine qr_s hC (n := 2) (pc' := 4) (ls' := [.ref 0, .int x1, .int x2]) (st' := [.ref 0, .int x2]) (h' := mw φ) rfl ?_
    obtain ⟨y1, hy, hs⟩ := qb1_s hs
    refine qr_c (j := 79) (as := [.ref 0]) (rest := [.int x2]) (v := some (.int y1)) (h1 := mw φ) hC rfl rfl qC_79 rfl rfl (mo_inputs_n F d φ _ (by omega) hy) ?_
    show qm_Rn (d + 1) 109 7 [.ref 0, .int x1, .int x2] [.int y1, .int x2] (mw φ) _
    refine qr_ge2 (tgt := 27) hC rfl (by decide) rfl (fun hc => ?_) (fun hc => ?_)
    · rw [if_pos hc] at hs
      refine qr_s hC (n := 1) (pc' := 28) (ls' := [.ref 0, .int x1, .int x2]) (st' := [.int (-1)]) (h' := mw φ) rfl ?_
      have hs := Option.some.inj hs
      subst hs
      exact qr_r hC rfl rfl
    · rw [if_neg hc] at hs
      refine qr_s hC (n := 3) (pc' := 13) (ls' := [.ref 0, .int x1, .int x2]) (st' := [.int x2, .int x1, .ref 0]) (h' := mw φ) rfl ?_
      obtain ⟨y2, φ1, hy, hs⟩ := qb2_s hs
      refine qr_c (j := 108) (as := [.ref 0, .int x1, .int x2]) (rest := []) (v := some (.int y2)) (h1 := mw φ1) hC rfl rfl qC_108 rfl rfl (mo_verdictOf_n F d φ x1 x2 _ (by omega) hy) ?_
      show qm_Rn (d + 1) 109 16 [.ref 0, .int x1, .int x2] [.int y2] (mw φ1) _
      refine qr_le1 (tgt := 21) hC rfl (by decide) rfl (fun hc => ?_) (fun hc => ?_)
      · rw [if_pos hc] at hs
        refine qr_s hC (n := 2) (pc' := 2) (ls' := [.ref 0, .int x1, .int (x2 + 1)]) (st' := []) (h' := mw φ1) rfl ?_
        exact ih φ1 x1 (x2 + 1) _ hs
      · rw [if_neg hc] at hs
        refine qr_s hC (n := 1) (pc' := 20) (ls' := [.ref 0, .int x1, .int x2]) (st' := [.int x2]) (h' := mw φ1) rfl ?_
        have hs := Option.some.inj hs
        subst hs
        exact qr_r hC rfl rfl
set_option maxRecDepth 100000 in
theorem mo_refuterOf_n (F d : Nat) (φ : qm_F) (x1 : Int32) (r : (Int32 × qm_F)) (hd : 48 ≤ d) (hs : mo_refuterOf F φ x1 = some r) : qm_Rn d 109 0 [.ref 0, .int x1, .retAddr 0] [] (mw φ) (some (.int r.1), mw r.2) := by
  obtain ⟨d, rfl⟩ : ∃ e, d = e + 1 := ⟨d - 1, by omega⟩
  have hC := qC_109
  unfold mo_refuterOf at hs
  refine qr_s hC (n := 2) (pc' := 2) (ls' := [.ref 0, .int x1, .int 0]) (st' := []) (h' := mw φ) rfl ?_
  exact mo_refuterOf_L2_n F (d + 1) (by omega) F φ x1 0 _ hs
/-- SketchFillerModel.refuter(I)I -/
def mo_refuter (F : Nat) (φ : qm_F) (x1 : Int32) : Option (Int32 × qm_F) :=
  qb1 (mo_isGuess F (qm_u φ 0 0 0) x1) fun y1 =>
  if y1 = 0 then
    some ((-2), (qm_u φ 0 0 0))
  else
    qb2 (mo_refuterOf F (qm_u φ 0 0 0) x1) fun y2 φ1 =>
    some (y2, φ1)
set_option maxRecDepth 100000 in
theorem mo_refuter_n (F d : Nat) (φ : qm_F) (x1 : Int32) (r : (Int32 × qm_F)) (hd : 49 ≤ d) (hs : mo_refuter F φ x1 = some r) : qm_Rn d 110 0 [.ref 0, .int x1] [] (mw φ) (some (.int r.1), mw r.2) := by
  obtain ⟨d, rfl⟩ : ∃ e, d = e + 1 := ⟨d - 1, by omega⟩
  have hC := qC_110
  unfold mo_refuter at hs
  refine qr_s hC (n := 5) (pc' := 7) (ls' := [.ref 0, .int x1]) (st' := [.int x1, .ref 0]) (h' := mw (qm_u φ 0 0 0)) rfl ?_
  obtain ⟨y1, hy, hs⟩ := qb1_s hs
  refine qr_c (j := 80) (as := [.ref 0, .int x1]) (rest := []) (v := some (.int y1)) (h1 := mw (qm_u φ 0 0 0)) hC rfl rfl qC_80 rfl rfl (mo_isGuess_n F d (qm_u φ 0 0 0) x1 _ (by omega) hy) ?_
  show qm_Rn (d + 1) 110 10 [.ref 0, .int x1] [.int y1] (mw (qm_u φ 0 0 0)) _
  refine qr_eq1 (tgt := 21) hC rfl (by decide) rfl (fun hc => ?_) (fun hc => ?_)
  · rw [if_pos hc] at hs
    refine qr_s hC (n := 1) (pc' := 23) (ls' := [.ref 0, .int x1]) (st' := [.int (-2)]) (h' := mw (qm_u φ 0 0 0)) rfl ?_
    have hs := Option.some.inj hs
    subst hs
    exact qr_r hC rfl rfl
  · rw [if_neg hc] at hs
    refine qr_s hC (n := 2) (pc' := 15) (ls' := [.ref 0, .int x1]) (st' := [.int x1, .ref 0]) (h' := mw (qm_u φ 0 0 0)) rfl ?_
    obtain ⟨y2, φ1, hy, hs⟩ := qb2_s hs
    refine qr_c (j := 109) (as := [.ref 0, .int x1]) (rest := []) (v := some (.int y2)) (h1 := mw φ1) hC rfl rfl qC_109 rfl rfl (mo_refuterOf_n F d (qm_u φ 0 0 0) x1 _ (by omega) hy) ?_
    show qm_Rn (d + 1) 110 18 [.ref 0, .int x1] [.int y2] (mw φ1) _
    refine qr_s hC (n := 1) (pc' := 23) (ls' := [.ref 0, .int x1]) (st' := [.int y2]) (h' := mw φ1) rfl ?_
    have hs := Option.some.inj hs
    subst hs
    exact qr_r hC rfl rfl
/-- SketchFillerModel.isOut(I)Z -/
def mo_isOut_L2 (F : Nat) : Nat → qm_F → Int32 → Int32 → Option Int32
  | 0, _, _, _ => none
  | n + 1, φ, x1, x2 =>
    if (φ 2 2) ≤ x2 then
      some 0
    else
      qg (qm_in x2 5) <|
      if (φ 15 x2.toNatClampNeg) = (-1) then
        mo_isOut_L2 F n φ x1 (x2 + 1)
      else
        qb1 (mo_holeIn F φ x1 x2) fun y1 =>
        qg (qm_in x2 5) <|
        if y1 = (φ 15 x2.toNatClampNeg) then
          mo_isOut_L2 F n φ x1 (x2 + 1)
        else
          some 1
def mo_isOut (F : Nat) (φ : qm_F) (x1 : Int32) : Option Int32 :=
  mo_isOut_L2 F F φ x1 0
set_option maxRecDepth 100000 in
theorem mo_isOut_L2_n (F d : Nat) (hd : 2 ≤ d) : ∀ (n : Nat) (φ : qm_F) (x1 : Int32) (x2 : Int32) (r : Int32), mo_isOut_L2 F n φ x1 x2 = some r → qm_Rn d 111 2 [.ref 0, .int x1, .int x2] [] (mw φ) (some (.int r), mw φ) := by
  obtain ⟨d, rfl⟩ : ∃ e, d = e + 1 := ⟨d - 1, by omega⟩
  have hC := qC_111
  intro n
  induction n with
  | zero => intro φ x1 x2 r hs; simp [mo_isOut_L2] at hs
  | succ n ih =>
    intro φ x1 x2 r hs
    rw [mo_isOut_L2] at hs
    refine qr_s hC (n := 4) (pc' := 8) (ls' := [.ref 0, .int x1, .int x2]) (st' := [.int 2, .ref 2, .int x2]) (h' := mw φ) rfl ?_
    refine qr_ia (v := φ 2 2) hC rfl rfl (by decide) rfl ?_
    refine qr_ge2 (tgt := 45) hC rfl (by decide) rfl (fun hc => ?_) (fun hc => ?_)
    · rw [if_pos hc] at hs
      refine qr_s hC (n := 1) (pc' := 46) (ls' := [.ref 0, .int x1, .int x2]) (st' := [.int 0]) (h' := mw φ) rfl ?_
      have hs := Option.some.inj hs
      subst hs
      exact qr_r hC rfl rfl
    · rw [if_neg hc] at hs
      refine qr_s hC (n := 3) (pc' := 17) (ls' := [.ref 0, .int x1, .int x2]) (st' := [.int x2, .ref 15]) (h' := mw φ) rfl ?_
      obtain ⟨hq, hs⟩ := qg_s hs
      refine qr_ia (v := φ 15 x2.toNatClampNeg) hC rfl rfl hq rfl ?_
      refine qr_s hC (n := 1) (pc' := 19) (ls' := [.ref 0, .int x1, .int x2]) (st' := [.int (-1), .int (φ 15 x2.toNatClampNeg)]) (h' := mw φ) rfl ?_
      refine qr_eq2 (tgt := 39) hC rfl (by decide) rfl (fun hc => ?_) (fun hc => ?_)
      · rw [if_pos hc] at hs
        refine qr_s hC (n := 2) (pc' := 2) (ls' := [.ref 0, .int x1, .int (x2 + 1)]) (st' := []) (h' := mw φ) rfl ?_
        exact ih φ x1 (x2 + 1) _ hs
      · rw [if_neg hc] at hs
        refine qr_s hC (n := 3) (pc' := 25) (ls' := [.ref 0, .int x1, .int x2]) (st' := [.int x2, .int x1, .ref 0]) (h' := mw φ) rfl ?_
        obtain ⟨y1, hy, hs⟩ := qb1_s hs
        refine qr_c (j := 84) (as := [.ref 0, .int x1, .int x2]) (rest := []) (v := some (.int y1)) (h1 := mw φ) hC rfl rfl qC_84 rfl rfl (mo_holeIn_n F d φ x1 x2 _ (by omega) hy) ?_
        show qm_Rn (d + 1) 111 28 [.ref 0, .int x1, .int x2] [.int y1] (mw φ) _
        refine qr_s hC (n := 3) (pc' := 33) (ls' := [.ref 0, .int x1, .int x2]) (st' := [.int x2, .ref 15, .int y1]) (h' := mw φ) rfl ?_
        obtain ⟨hq, hs⟩ := qg_s hs
        refine qr_ia (v := φ 15 x2.toNatClampNeg) hC rfl rfl hq rfl ?_
        refine qr_eq2 (tgt := 39) hC rfl (by decide) rfl (fun hc => ?_) (fun hc => ?_)
        · rw [if_pos hc] at hs
          refine qr_s hC (n := 2) (pc' := 2) (ls' := [.ref 0, .int x1, .int (x2 + 1)]) (st' := []) (h' := mw φ) rfl ?_
          exact ih φ x1 (x2 + 1) _ hs
        · rw [if_neg hc] at hs
          refine qr_s hC (n := 1) (pc' := 38) (ls' := [.ref 0, .int x1, .int x2]) (st' := [.int 1]) (h' := mw φ) rfl ?_
          have hs := Option.some.inj hs
          subst hs
          exact qr_r hC rfl rfl
set_option maxRecDepth 100000 in
theorem mo_isOut_n (F d : Nat) (φ : qm_F) (x1 : Int32) (r : Int32) (hd : 2 ≤ d) (hs : mo_isOut F φ x1 = some r) : qm_Rn d 111 0 [.ref 0, .int x1, .retAddr 0] [] (mw φ) (some (.int r), mw φ) := by
  obtain ⟨d, rfl⟩ : ∃ e, d = e + 1 := ⟨d - 1, by omega⟩
  have hC := qC_111
  unfold mo_isOut at hs
  refine qr_s hC (n := 2) (pc' := 2) (ls' := [.ref 0, .int x1, .int 0]) (st' := []) (h' := mw φ) rfl ?_
  exact mo_isOut_L2_n F (d + 1) (by omega) F φ x1 0 _ hs
/-- SketchFillerModel.isLeft(I)Z -/
def mo_isLeft_L12 (F : Nat) : Nat → qm_F → Int32 → Int32 → Option (Int32 × qm_F)
  | 0, _, _, _ => none
  | n + 1, φ, x1, x2 =>
    if (φ 0 45) ≤ x2 then
      some (1, φ)
    else
      qg (qm_in x2 40) <|
      if ¬ (φ 21 x2.toNatClampNeg) = 0 then
        mo_isLeft_L12 F n φ x1 (x2 + 1)
      else
        qg (qm_in x2 40) <|
        qb2 (mo_verdictOf F φ x1 (φ 20 x2.toNatClampNeg)) fun y1 φ1 =>
        if y1 ≤ 0 then
          mo_isLeft_L12 F n φ1 x1 (x2 + 1)
        else
          some (0, φ1)
def mo_isLeft (F : Nat) (φ : qm_F) (x1 : Int32) : Option (Int32 × qm_F) :=
  qb1 (mo_isOut F φ x1) fun y1 =>
  if y1 = 0 then
    mo_isLeft_L12 F F φ x1 0
  else
    some (0, φ)
set_option maxRecDepth 100000 in
theorem mo_isLeft_L12_n (F d : Nat) (hd : 48 ≤ d) : ∀ (n : Nat) (φ : qm_F) (x1 : Int32) (x2 : Int32) (r : (Int32 × qm_F)), mo_isLeft_L12 F n φ x1 x2 = some r → qm_Rn d 112 12 [.ref 0, .int x1, .int x2] [] (mw φ) (some (.int r.1), mw r.2) := by
  obtain ⟨d, rfl⟩ : ∃ e, d = e + 1 := ⟨d - 1, by omega⟩
  have hC := qC_112
  intro n
  induction n with
  | zero => intro φ x1 x2 r hs; simp [mo_isLeft_L12] at hs
  | succ n ih =>
    intro φ x1 x2 r hs
    rw [mo_isLeft_L12] at hs
    refine qr_s hC (n := 3) (pc' := 17) (ls' := [.ref 0, .int x1, .int x2]) (st' := [.int (φ 0 45), .int x2]) (h' := mw φ) rfl ?_
    refine qr_ge2 (tgt := 51) hC rfl (by decide) rfl (fun hc => ?_) (fun hc => ?_)
    · rw [if_pos hc] at hs
      refine qr_s hC (n := 1) (pc' := 52) (ls' := [.ref 0, .int x1, .int x2]) (st' := [.int 1]) (h' := mw φ) rfl ?_
      have hs := Option.some.inj hs
      subst hs
      exact qr_r hC rfl rfl
    · rw [if_neg hc] at hs
      refine qr_s hC (n := 3) (pc' := 25) (ls' := [.ref 0, .int x1, .int x2]) (st' := [.int x2, .ref 21]) (h' := mw φ) rfl ?_
      obtain ⟨hq, hs⟩ := qg_s hs
      refine qr_za (v := φ 21 x2.toNatClampNeg) hC rfl rfl hq rfl ?_
      refine qr_ne1 (tgt := 45) hC rfl (by decide) rfl (fun hc => ?_) (fun hc => ?_)
      · rw [if_pos hc] at hs
        refine qr_s hC (n := 2) (pc' := 12) (ls' := [.ref 0, .int x1, .int (x2 + 1)]) (st' := []) (h' := mw φ) rfl ?_
        exact ih φ x1 (x2 + 1) _ hs
      · rw [if_neg hc] at hs
        refine qr_s hC (n := 5) (pc' := 36) (ls' := [.ref 0, .int x1, .int x2]) (st' := [.int x2, .ref 20, .int x1, .ref 0]) (h' := mw φ) rfl ?_
        obtain ⟨hq, hs⟩ := qg_s hs
        refine qr_ia (v := φ 20 x2.toNatClampNeg) hC rfl rfl hq rfl ?_
        obtain ⟨y1, φ1, hy, hs⟩ := qb2_s hs
        refine qr_c (j := 108) (as := [.ref 0, .int x1, .int (φ 20 x2.toNatClampNeg)]) (rest := []) (v := some (.int y1)) (h1 := mw φ1) hC rfl rfl qC_108 rfl rfl (mo_verdictOf_n F d φ x1 (φ 20 x2.toNatClampNeg) _ (by omega) hy) ?_
        show qm_Rn (d + 1) 112 40 [.ref 0, .int x1, .int x2] [.int y1] (mw φ1) _
        refine qr_le1 (tgt := 45) hC rfl (by decide) rfl (fun hc => ?_) (fun hc => ?_)
        · rw [if_pos hc] at hs
          refine qr_s hC (n := 2) (pc' := 12) (ls' := [.ref 0, .int x1, .int (x2 + 1)]) (st' := []) (h' := mw φ1) rfl ?_
          exact ih φ1 x1 (x2 + 1) _ hs
        · rw [if_neg hc] at hs
          refine qr_s hC (n := 1) (pc' := 44) (ls' := [.ref 0, .int x1, .int x2]) (st' := [.int 0]) (h' := mw φ1) rfl ?_
          have hs := Option.some.inj hs
          subst hs
          exact qr_r hC rfl rfl
set_option maxRecDepth 100000 in
theorem mo_isLeft_n (F d : Nat) (φ : qm_F) (x1 : Int32) (r : (Int32 × qm_F)) (hd : 48 ≤ d) (hs : mo_isLeft F φ x1 = some r) : qm_Rn d 112 0 [.ref 0, .int x1, .retAddr 0] [] (mw φ) (some (.int r.1), mw r.2) := by
  obtain ⟨d, rfl⟩ : ∃ e, d = e + 1 := ⟨d - 1, by omega⟩
  have hC := qC_112
  unfold mo_isLeft at hs
  refine qr_s hC (n := 2) (pc' := 2) (ls' := [.ref 0, .int x1, .retAddr 0]) (st' := [.int x1, .ref 0]) (h' := mw φ) rfl ?_
  obtain ⟨y1, hy, hs⟩ := qb1_s hs
  refine qr_c (j := 111) (as := [.ref 0, .int x1]) (rest := []) (v := some (.int y1)) (h1 := mw φ) hC rfl rfl qC_111 rfl rfl (mo_isOut_n F d φ x1 _ (by omega) hy) ?_
  show qm_Rn (d + 1) 112 5 [.ref 0, .int x1, .retAddr 0] [.int y1] (mw φ) _
  refine qr_eq1 (tgt := 10) hC rfl (by decide) rfl (fun hc => ?_) (fun hc => ?_)
  · rw [if_pos hc] at hs
    refine qr_s hC (n := 2) (pc' := 12) (ls' := [.ref 0, .int x1, .int 0]) (st' := []) (h' := mw φ) rfl ?_
    exact mo_isLeft_L12_n F (d + 1) (by omega) F φ x1 0 _ hs
  · rw [if_neg hc] at hs
    refine qr_s hC (n := 1) (pc' := 9) (ls' := [.ref 0, .int x1, .retAddr 0]) (st' := [.int 0]) (h' := mw φ) rfl ?_
    have hs := Option.some.inj hs
    subst hs
    exact qr_r hC rfl rfl
/-- SketchFillerModel.isOf(II)Z -/
def mo_isOf2 (F : Nat) (φ : qm_F) (x1 : Int32) (x2 : Int32) : Option (Int32 × qm_F) :=
  if ¬ x2 = 0 then
    if ¬ x2 = 1 then
      qb1 (mo_isOut F φ x1) fun y1 =>
      if ¬ y1 = 0 then
        some (0, φ)
      else
        some (1, φ)
    else
      qb1 (mo_isOut F φ x1) fun y2 =>
      if ¬ y2 = 0 then
        some (0, φ)
      else
        qb2 (mo_refuterOf F φ x1) fun y3 φ1 =>
        if 0 ≤ y3 then
          some (0, φ1)
        else
          some (1, φ1)
  else
    qb2 (mo_isLeft F φ x1) fun y4 φ2 =>
    qg (qm_bz y4) (some (y4, φ2))
set_option maxRecDepth 100000 in
theorem mo_isOf2_n (F d : Nat) (φ : qm_F) (x1 : Int32) (x2 : Int32) (r : (Int32 × qm_F)) (hd : 49 ≤ d) (hs : mo_isOf2 F φ x1 x2 = some r) : qm_Rn d 113 0 [.ref 0, .int x1, .int x2] [] (mw φ) (some (.int r.1), mw r.2) := by
  obtain ⟨d, rfl⟩ : ∃ e, d = e + 1 := ⟨d - 1, by omega⟩
  have hC := qC_113
  unfold mo_isOf2 at hs
  refine qr_s hC (n := 1) (pc' := 1) (ls' := [.ref 0, .int x1, .int x2]) (st' := [.int x2]) (h' := mw φ) rfl ?_
  refine qr_ne1 (tgt := 12) hC rfl (by decide) rfl (fun hc => ?_) (fun hc => ?_)
  · rw [if_pos hc] at hs
    refine qr_s hC (n := 2) (pc' := 14) (ls' := [.ref 0, .int x1, .int x2]) (st' := [.int 1, .int x2]) (h' := mw φ) rfl ?_
    refine qr_ne2 (tgt := 41) hC rfl (by decide) rfl (fun hc => ?_) (fun hc => ?_)
    · rw [if_pos hc] at hs
      refine qr_s hC (n := 2) (pc' := 43) (ls' := [.ref 0, .int x1, .int x2]) (st' := [.int x1, .ref 0]) (h' := mw φ) rfl ?_
      obtain ⟨y1, hy, hs⟩ := qb1_s hs
      refine qr_c (j := 111) (as := [.ref 0, .int x1]) (rest := []) (v := some (.int y1)) (h1 := mw φ) hC rfl rfl qC_111 rfl rfl (mo_isOut_n F d φ x1 _ (by omega) hy) ?_
      show qm_Rn (d + 1) 113 46 [.ref 0, .int x1, .int x2] [.int y1] (mw φ) _
      refine qr_ne1 (tgt := 53) hC rfl (by decide) rfl (fun hc => ?_) (fun hc => ?_)
      · rw [if_pos hc] at hs
        refine qr_s hC (n := 1) (pc' := 54) (ls' := [.ref 0, .int x1, .int x2]) (st' := [.int 0]) (h' := mw φ) rfl ?_
        have hs := Option.some.inj hs
        subst hs
        exact qr_r hC rfl rfl
      · rw [if_neg hc] at hs
        refine qr_s hC (n := 2) (pc' := 54) (ls' := [.ref 0, .int x1, .int x2]) (st' := [.int 1]) (h' := mw φ) rfl ?_
        have hs := Option.some.inj hs
        subst hs
        exact qr_r hC rfl rfl
    · rw [if_neg hc] at hs
      refine qr_s hC (n := 2) (pc' := 19) (ls' := [.ref 0, .int x1, .int x2]) (st' := [.int x1, .ref 0]) (h' := mw φ) rfl ?_
      obtain ⟨y2, hy, hs⟩ := qb1_s hs
      refine qr_c (j := 111) (as := [.ref 0, .int x1]) (rest := []) (v := some (.int y2)) (h1 := mw φ) hC rfl rfl qC_111 rfl rfl (mo_isOut_n F d φ x1 _ (by omega) hy) ?_
      show qm_Rn (d + 1) 113 22 [.ref 0, .int x1, .int x2] [.int y2] (mw φ) _
      refine qr_ne1 (tgt := 37) hC rfl (by decide) rfl (fun hc => ?_) (fun hc => ?_)
      · rw [if_pos hc] at hs
        refine qr_s hC (n := 2) (pc' := 54) (ls' := [.ref 0, .int x1, .int x2]) (st' := [.int 0]) (h' := mw φ) rfl ?_
        have hs := Option.some.inj hs
        subst hs
        exact qr_r hC rfl rfl
      · rw [if_neg hc] at hs
        refine qr_s hC (n := 2) (pc' := 27) (ls' := [.ref 0, .int x1, .int x2]) (st' := [.int x1, .ref 0]) (h' := mw φ) rfl ?_
        obtain ⟨y3, φ1, hy, hs⟩ := qb2_s hs
        refine qr_c (j := 109) (as := [.ref 0, .int x1]) (rest := []) (v := some (.int y3)) (h1 := mw φ1) hC rfl rfl qC_109 rfl rfl (mo_refuterOf_n F d φ x1 _ (by omega) hy) ?_
        show qm_Rn (d + 1) 113 30 [.ref 0, .int x1, .int x2] [.int y3] (mw φ1) _
        refine qr_ge1 (tgt := 37) hC rfl (by decide) rfl (fun hc => ?_) (fun hc => ?_)
        · rw [if_pos hc] at hs
          refine qr_s hC (n := 2) (pc' := 54) (ls' := [.ref 0, .int x1, .int x2]) (st' := [.int 0]) (h' := mw φ1) rfl ?_
          have hs := Option.some.inj hs
          subst hs
          exact qr_r hC rfl rfl
        · rw [if_neg hc] at hs
          refine qr_s hC (n := 2) (pc' := 54) (ls' := [.ref 0, .int x1, .int x2]) (st' := [.int 1]) (h' := mw φ1) rfl ?_
          have hs := Option.some.inj hs
          subst hs
          exact qr_r hC rfl rfl
  · rw [if_neg hc] at hs
    refine qr_s hC (n := 2) (pc' := 6) (ls' := [.ref 0, .int x1, .int x2]) (st' := [.int x1, .ref 0]) (h' := mw φ) rfl ?_
    obtain ⟨y4, φ2, hy, hs⟩ := qb2_s hs
    refine qr_c (j := 112) (as := [.ref 0, .int x1]) (rest := []) (v := some (.int y4)) (h1 := mw φ2) hC rfl rfl qC_112 rfl rfl (mo_isLeft_n F d φ x1 _ (by omega) hy) ?_
    show qm_Rn (d + 1) 113 9 [.ref 0, .int x1, .int x2] [.int y4] (mw φ2) _
    refine qr_s hC (n := 1) (pc' := 54) (ls' := [.ref 0, .int x1, .int x2]) (st' := [.int y4]) (h' := mw φ2) rfl ?_
    obtain ⟨hz, hs⟩ := qg_s hs
    have hs := Option.some.inj hs
    subst hs
    exact qr_rz hC rfl hz
/-- SketchFillerModel.firstOf(I)I -/
def mo_firstOf_L2 (F : Nat) : Nat → qm_F → Int32 → Int32 → Option (Int32 × qm_F)
  | 0, _, _, _ => none
  | n + 1, φ, x1, x2 =>
    qb1 (mo_guesses F φ) fun y1 =>
    if y1 ≤ x2 then
      some ((-1), φ)
    else
      qg (qm_in x2 128) <|
      qb2 (mo_isOf2 F φ (φ 16 x2.toNatClampNeg) x1) fun y2 φ1 =>
      if y2 = 0 then
        mo_firstOf_L2 F n φ1 x1 (x2 + 1)
      else
        qg (qm_in x2 128) <|
        some (φ1 16 x2.toNatClampNeg, φ1)
def mo_firstOf (F : Nat) (φ : qm_F) (x1 : Int32) : Option (Int32 × qm_F) :=
  mo_firstOf_L2 F F φ x1 0
set_option maxRecDepth 100000 in
theorem mo_firstOf_L2_n (F d : Nat) (hd : 50 ≤ d) : ∀ (n : Nat) (φ : qm_F) (x1 : Int32) (x2 : Int32) (r : (Int32 × qm_F)), mo_firstOf_L2 F n φ x1 x2 = some r → qm_Rn d 114 2 [.ref 0, .int x1, .int x2] [] (mw φ) (some (.int r.1), mw r.2) := by
  obtain ⟨d, rfl⟩ : ∃ e, d = e + 1 := ⟨d - 1, by omega⟩
  have hC := qC_114
  intro n
  induction n with
  | zero => intro φ x1 x2 r hs; simp [mo_firstOf_L2] at hs
  | succ n ih =>
    intro φ x1 x2 r hs
    rw [mo_firstOf_L2] at hs
    refine qr_s hC (n := 2) (pc' := 4) (ls' := [.ref 0, .int x1, .int x2]) (st' := [.ref 0, .int x2]) (h' := mw φ) rfl ?_
    obtain ⟨y1, hy, hs⟩ := qb1_s hs
    refine qr_c (j := 78) (as := [.ref 0]) (rest := [.int x2]) (v := some (.int y1)) (h1 := mw φ) hC rfl rfl qC_78 rfl rfl (mo_guesses_n F d φ _ (by omega) hy) ?_
    show qm_Rn (d + 1) 114 7 [.ref 0, .int x1, .int x2] [.int y1, .int x2] (mw φ) _
    refine qr_ge2 (tgt := 37) hC rfl (by decide) rfl (fun hc => ?_) (fun hc => ?_)
    · rw [if_pos hc] at hs
      refine qr_s hC (n := 1) (pc' := 38) (ls' := [.ref 0, .int x1, .int x2]) (st' := [.int (-1)]) (h' := mw φ) rfl ?_
      have hs := Option.some.inj hs
      subst hs
      exact qr_r hC rfl rfl
    · rw [if_neg hc] at hs
      refine qr_s hC (n := 4) (pc' := 16) (ls' := [.ref 0, .int x1, .int x2]) (st' := [.int x2, .ref 16, .ref 0]) (h' := mw φ) rfl ?_
      obtain ⟨hq, hs⟩ := qg_s hs
      refine qr_ia (v := φ 16 x2.toNatClampNeg) hC rfl rfl hq rfl ?_
      refine qr_s hC (n := 1) (pc' := 18) (ls' := [.ref 0, .int x1, .int x2]) (st' := [.int x1, .int (φ 16 x2.toNatClampNeg), .ref 0]) (h' := mw φ) rfl ?_
      obtain ⟨y2, φ1, hy, hs⟩ := qb2_s hs
      refine qr_c (j := 113) (as := [.ref 0, .int (φ 16 x2.toNatClampNeg), .int x1]) (rest := []) (v := some (.int y2)) (h1 := mw φ1) hC rfl rfl qC_113 rfl rfl (mo_isOf2_n F d φ (φ 16 x2.toNatClampNeg) x1 _ (by omega) hy) ?_
      show qm_Rn (d + 1) 114 21 [.ref 0, .int x1, .int x2] [.int y2] (mw φ1) _
      refine qr_eq1 (tgt := 31) hC rfl (by decide) rfl (fun hc => ?_) (fun hc => ?_)
      · rw [if_pos hc] at hs
        refine qr_s hC (n := 2) (pc' := 2) (ls' := [.ref 0, .int x1, .int (x2 + 1)]) (st' := []) (h' := mw φ1) rfl ?_
        exact ih φ1 x1 (x2 + 1) _ hs
      · rw [if_neg hc] at hs
        refine qr_s hC (n := 3) (pc' := 29) (ls' := [.ref 0, .int x1, .int x2]) (st' := [.int x2, .ref 16]) (h' := mw φ1) rfl ?_
        obtain ⟨hq, hs⟩ := qg_s hs
        refine qr_ia (v := φ1 16 x2.toNatClampNeg) hC rfl rfl hq rfl ?_
        have hs := Option.some.inj hs
        subst hs
        exact qr_r hC rfl rfl
set_option maxRecDepth 100000 in
theorem mo_firstOf_n (F d : Nat) (φ : qm_F) (x1 : Int32) (r : (Int32 × qm_F)) (hd : 50 ≤ d) (hs : mo_firstOf F φ x1 = some r) : qm_Rn d 114 0 [.ref 0, .int x1, .retAddr 0] [] (mw φ) (some (.int r.1), mw r.2) := by
  obtain ⟨d, rfl⟩ : ∃ e, d = e + 1 := ⟨d - 1, by omega⟩
  have hC := qC_114
  unfold mo_firstOf at hs
  refine qr_s hC (n := 2) (pc' := 2) (ls' := [.ref 0, .int x1, .int 0]) (st' := []) (h' := mw φ) rfl ?_
  exact mo_firstOf_L2_n F (d + 1) (by omega) F φ x1 0 _ hs
/-- SketchFillerModel.manyOf(I)I -/
def mo_manyOf_L4 (F : Nat) : Nat → qm_F → Int32 → Int32 → Int32 → Option (Int32 × qm_F)
  | 0, _, _, _, _ => none
  | n + 1, φ, x1, x2, x3 =>
    qb1 (mo_guesses F φ) fun y1 =>
    if y1 ≤ x3 then
      some (x2, φ)
    else
      qb2 (mo_isOf2 F φ x3 x1) fun y2 φ1 =>
      if y2 = 0 then
        mo_manyOf_L4 F n φ1 x1 (x2 + 0) (x3 + 1)
      else
        mo_manyOf_L4 F n φ1 x1 (x2 + 1) (x3 + 1)
def mo_manyOf (F : Nat) (φ : qm_F) (x1 : Int32) : Option (Int32 × qm_F) :=
  mo_manyOf_L4 F F φ x1 0 0
set_option maxRecDepth 100000 in
theorem mo_manyOf_L4_n (F d : Nat) (hd : 50 ≤ d) : ∀ (n : Nat) (φ : qm_F) (x1 : Int32) (x2 : Int32) (x3 : Int32) (r : (Int32 × qm_F)), mo_manyOf_L4 F n φ x1 x2 x3 = some r → qm_Rn d 115 4 [.ref 0, .int x1, .int x2, .int x3] [] (mw φ) (some (.int r.1), mw r.2) := by
  obtain ⟨d, rfl⟩ : ∃ e, d = e + 1 := ⟨d - 1, by omega⟩
  have hC := qC_115
  intro n
  induction n with
  | zero => intro φ x1 x2 x3 r hs; simp [mo_manyOf_L4] at hs
  | succ n ih =>
    intro φ x1 x2 x3 r hs
    rw [mo_manyOf_L4] at hs
    refine qr_s hC (n := 2) (pc' := 6) (ls' := [.ref 0, .int x1, .int x2, .int x3]) (st' := [.ref 0, .int x3]) (h' := mw φ) rfl ?_
    obtain ⟨y1, hy, hs⟩ := qb1_s hs
    refine qr_c (j := 78) (as := [.ref 0]) (rest := [.int x3]) (v := some (.int y1)) (h1 := mw φ) hC rfl rfl qC_78 rfl rfl (mo_guesses_n F d φ _ (by omega) hy) ?_
    show qm_Rn (d + 1) 115 9 [.ref 0, .int x1, .int x2, .int x3] [.int y1, .int x3] (mw φ) _
    refine qr_ge2 (tgt := 35) hC rfl (by decide) rfl (fun hc => ?_) (fun hc => ?_)
    · rw [if_pos hc] at hs
      refine qr_s hC (n := 1) (pc' := 36) (ls' := [.ref 0, .int x1, .int x2, .int x3]) (st' := [.int x2]) (h' := mw φ) rfl ?_
      have hs := Option.some.inj hs
      subst hs
      exact qr_r hC rfl rfl
    · rw [if_neg hc] at hs
      refine qr_s hC (n := 4) (pc' := 16) (ls' := [.ref 0, .int x1, .int x2, .int x3]) (st' := [.int x1, .int x3, .ref 0, .int x2]) (h' := mw φ) rfl ?_
      obtain ⟨y2, φ1, hy, hs⟩ := qb2_s hs
      refine qr_c (j := 113) (as := [.ref 0, .int x3, .int x1]) (rest := [.int x2]) (v := some (.int y2)) (h1 := mw φ1) hC rfl rfl qC_113 rfl rfl (mo_isOf2_n F d φ x3 x1 _ (by omega) hy) ?_
      show qm_Rn (d + 1) 115 19 [.ref 0, .int x1, .int x2, .int x3] [.int y2, .int x2] (mw φ1) _
      refine qr_eq1 (tgt := 26) hC rfl (by decide) rfl (fun hc => ?_) (fun hc => ?_)
      · rw [if_pos hc] at hs
        refine qr_s hC (n := 5) (pc' := 4) (ls' := [.ref 0, .int x1, .int (x2 + 0), .int (x3 + 1)]) (st' := []) (h' := mw φ1) rfl ?_
        exact ih φ1 x1 (x2 + 0) (x3 + 1) _ hs
      · rw [if_neg hc] at hs
        refine qr_s hC (n := 6) (pc' := 4) (ls' := [.ref 0, .int x1, .int (x2 + 1), .int (x3 + 1)]) (st' := []) (h' := mw φ1) rfl ?_
        exact ih φ1 x1 (x2 + 1) (x3 + 1) _ hs
set_option maxRecDepth 100000 in
theorem mo_manyOf_n (F d : Nat) (φ : qm_F) (x1 : Int32) (r : (Int32 × qm_F)) (hd : 50 ≤ d) (hs : mo_manyOf F φ x1 = some r) : qm_Rn d 115 0 [.ref 0, .int x1, .retAddr 0, .retAddr 0] [] (mw φ) (some (.int r.1), mw r.2) := by
  obtain ⟨d, rfl⟩ : ∃ e, d = e + 1 := ⟨d - 1, by omega⟩
  have hC := qC_115
  unfold mo_manyOf at hs
  refine qr_s hC (n := 4) (pc' := 4) (ls' := [.ref 0, .int x1, .int 0, .int 0]) (st' := []) (h' := mw φ) rfl ?_
  exact mo_manyOf_L4_n F (d + 1) (by omega) F φ x1 0 0 _ hs
/-- SketchFillerModel.guessing()I -/
def mo_guessing (F : Nat) (φ : qm_F) : Option (Int32 × qm_F) :=
  qb2 (mo_firstOf F φ 0) fun y1 φ1 =>
  if y1 < 0 then
    some ((-2), (qm_u (qm_u φ1 0 42 y1) 0 41 2))
  else
    some (y1, (qm_u φ1 0 42 y1))
set_option maxRecDepth 100000 in
theorem mo_guessing_n (F d : Nat) (φ : qm_F) (r : (Int32 × qm_F)) (hd : 51 ≤ d) (hs : mo_guessing F φ = some r) : qm_Rn d 116 0 [.ref 0] [] (mw φ) (some (.int r.1), mw r.2) := by
  obtain ⟨d, rfl⟩ : ∃ e, d = e + 1 := ⟨d - 1, by omega⟩
  have hC := qC_116
  unfold mo_guessing at hs
  refine qr_s hC (n := 3) (pc' := 3) (ls' := [.ref 0]) (st' := [.int 0, .ref 0, .ref 0]) (h' := mw φ) rfl ?_
  obtain ⟨y1, φ1, hy, hs⟩ := qb2_s hs
  refine qr_c (j := 114) (as := [.ref 0, .int 0]) (rest := [.ref 0]) (v := some (.int y1)) (h1 := mw φ1) hC rfl rfl qC_114 rfl rfl (mo_firstOf_n F d φ 0 _ (by omega) hy) ?_
  show qm_Rn (d + 1) 116 6 [.ref 0] [.int y1, .ref 0] (mw φ1) _
  refine qr_s hC (n := 3) (pc' := 13) (ls' := [.ref 0]) (st' := [.int y1]) (h' := mw (qm_u φ1 0 42 y1)) rfl ?_
  refine qr_lt1 (tgt := 21) hC rfl (by decide) rfl (fun hc => ?_) (fun hc => ?_)
  · rw [if_pos hc] at hs
    refine qr_s hC (n := 4) (pc' := 28) (ls' := [.ref 0]) (st' := [.int (-2)]) (h' := mw (qm_u (qm_u φ1 0 42 y1) 0 41 2)) rfl ?_
    have hs := Option.some.inj hs
    subst hs
    exact qr_r hC rfl rfl
  · rw [if_neg hc] at hs
    refine qr_s hC (n := 2) (pc' := 20) (ls' := [.ref 0]) (st' := [.int y1]) (h' := mw (qm_u φ1 0 42 y1)) rfl ?_
    have hs := Option.some.inj hs
    subst hs
    exact qr_r hC rfl rfl
/-- SketchFillerModel.guess()I -/
def mo_guess (F : Nat) (φ : qm_F) : Option (Int32 × qm_F) :=
  if (φ 0 12) = 0 then
    some ((-1), (qm_u φ 0 0 0))
  else
    if ¬ (φ 0 41) = 0 then
      some ((-1), (qm_u φ 0 0 0))
    else
      if 0 ≤ (φ 0 42) then
        some ((-1), (qm_u φ 0 0 0))
      else
        qb2 (mo_guessing F (qm_u φ 0 0 0)) fun y1 φ1 =>
        some (y1, φ1)
set_option maxRecDepth 100000 in
theorem mo_guess_n (F d : Nat) (φ : qm_F) (r : (Int32 × qm_F)) (hd : 52 ≤ d) (hs : mo_guess F φ = some r) : qm_Rn d 117 0 [.ref 0] [] (mw φ) (some (.int r.1), mw r.2) := by
  obtain ⟨d, rfl⟩ : ∃ e, d = e + 1 := ⟨d - 1, by omega⟩
  have hC := qC_117
  unfold mo_guess at hs
  refine qr_s hC (n := 5) (pc' := 9) (ls' := [.ref 0]) (st' := [.int (φ 0 12)]) (h' := mw (qm_u φ 0 0 0)) rfl ?_
  refine qr_eq1 (tgt := 33) hC rfl (by decide) rfl (fun hc => ?_) (fun hc => ?_)
  · rw [if_pos hc] at hs
    refine qr_s hC (n := 1) (pc' := 34) (ls' := [.ref 0]) (st' := [.int (-1)]) (h' := mw (qm_u φ 0 0 0)) rfl ?_
    have hs := Option.some.inj hs
    subst hs
    exact qr_r hC rfl rfl
  · rw [if_neg hc] at hs
    refine qr_s hC (n := 2) (pc' := 16) (ls' := [.ref 0]) (st' := [.int (φ 0 41)]) (h' := mw (qm_u φ 0 0 0)) rfl ?_
    refine qr_ne1 (tgt := 33) hC rfl (by decide) rfl (fun hc => ?_) (fun hc => ?_)
    · rw [if_pos hc] at hs
      refine qr_s hC (n := 1) (pc' := 34) (ls' := [.ref 0]) (st' := [.int (-1)]) (h' := mw (qm_u φ 0 0 0)) rfl ?_
      have hs := Option.some.inj hs
      subst hs
      exact qr_r hC rfl rfl
    · rw [if_neg hc] at hs
      refine qr_s hC (n := 2) (pc' := 23) (ls' := [.ref 0]) (st' := [.int (φ 0 42)]) (h' := mw (qm_u φ 0 0 0)) rfl ?_
      refine qr_ge1 (tgt := 33) hC rfl (by decide) rfl (fun hc => ?_) (fun hc => ?_)
      · rw [if_pos hc] at hs
        refine qr_s hC (n := 1) (pc' := 34) (ls' := [.ref 0]) (st' := [.int (-1)]) (h' := mw (qm_u φ 0 0 0)) rfl ?_
        have hs := Option.some.inj hs
        subst hs
        exact qr_r hC rfl rfl
      · rw [if_neg hc] at hs
        refine qr_s hC (n := 1) (pc' := 27) (ls' := [.ref 0]) (st' := [.ref 0]) (h' := mw (qm_u φ 0 0 0)) rfl ?_
        obtain ⟨y1, φ1, hy, hs⟩ := qb2_s hs
        refine qr_c (j := 116) (as := [.ref 0]) (rest := []) (v := some (.int y1)) (h1 := mw φ1) hC rfl rfl qC_116 rfl rfl (mo_guessing_n F d (qm_u φ 0 0 0) _ (by omega) hy) ?_
        show qm_Rn (d + 1) 117 30 [.ref 0] [.int y1] (mw φ1) _
        refine qr_s hC (n := 1) (pc' := 34) (ls' := [.ref 0]) (st' := [.int y1]) (h' := mw φ1) rfl ?_
        have hs := Option.some.inj hs
        subst hs
        exact qr_r hC rfl rfl
/-- SketchFillerModel.refutesOf(I)I -/
def mo_refutesOf_L4 (F : Nat) : Nat → qm_F → Int32 → Int32 → Int32 → Option (Int32 × qm_F)
  | 0, _, _, _, _ => none
  | n + 1, φ, x1, x2, x3 =>
    qb1 (mo_guesses F φ) fun y1 =>
    if y1 ≤ x3 then
      some (x2, φ)
    else
      qb2 (mo_verdictOf F φ x3 x1) fun y2 φ1 =>
      if y2 ≤ 0 then
        mo_refutesOf_L4 F n φ1 x1 (x2 + 0) (x3 + 1)
      else
        qb2 (mo_isLeft F φ1 x3) fun y3 φ2 =>
        if y3 = 0 then
          mo_refutesOf_L4 F n φ2 x1 (x2 + 0) (x3 + 1)
        else
          mo_refutesOf_L4 F n φ2 x1 (x2 + 1) (x3 + 1)
def mo_refutesOf (F : Nat) (φ : qm_F) (x1 : Int32) : Option (Int32 × qm_F) :=
  mo_refutesOf_L4 F F φ x1 0 0
set_option maxRecDepth 100000 in
theorem mo_refutesOf_L4_n (F d : Nat) (hd : 49 ≤ d) : ∀ (n : Nat) (φ : qm_F) (x1 : Int32) (x2 : Int32) (x3 : Int32) (r : (Int32 × qm_F)), mo_refutesOf_L4 F n φ x1 x2 x3 = some r → qm_Rn d 118 4 [.ref 0, .int x1, .int x2, .int x3] [] (mw φ) (some (.int r.1), mw r.2) := by
  obtain ⟨d, rfl⟩ : ∃ e, d = e + 1 := ⟨d - 1, by omega⟩
  have hC := qC_118
  intro n
  induction n with
  | zero => intro φ x1 x2 x3 r hs; simp [mo_refutesOf_L4] at hs
  | succ n ih =>
    intro φ x1 x2 x3 r hs
    rw [mo_refutesOf_L4] at hs
    refine qr_s hC (n := 2) (pc' := 6) (ls' := [.ref 0, .int x1, .int x2, .int x3]) (st' := [.ref 0, .int x3]) (h' := mw φ) rfl ?_
    obtain ⟨y1, hy, hs⟩ := qb1_s hs
    refine qr_c (j := 78) (as := [.ref 0]) (rest := [.int x3]) (v := some (.int y1)) (h1 := mw φ) hC rfl rfl qC_78 rfl rfl (mo_guesses_n F d φ _ (by omega) hy) ?_
    show qm_Rn (d + 1) 118 9 [.ref 0, .int x1, .int x2, .int x3] [.int y1, .int x3] (mw φ) _
    refine qr_ge2 (tgt := 43) hC rfl (by decide) rfl (fun hc => ?_) (fun hc => ?_)
    · rw [if_pos hc] at hs
      refine qr_s hC (n := 1) (pc' := 44) (ls' := [.ref 0, .int x1, .int x2, .int x3]) (st' := [.int x2]) (h' := mw φ) rfl ?_
      have hs := Option.some.inj hs
      subst hs
      exact qr_r hC rfl rfl
    · rw [if_neg hc] at hs
      refine qr_s hC (n := 4) (pc' := 16) (ls' := [.ref 0, .int x1, .int x2, .int x3]) (st' := [.int x1, .int x3, .ref 0, .int x2]) (h' := mw φ) rfl ?_
      obtain ⟨y2, φ1, hy, hs⟩ := qb2_s hs
      refine qr_c (j := 108) (as := [.ref 0, .int x3, .int x1]) (rest := [.int x2]) (v := some (.int y2)) (h1 := mw φ1) hC rfl rfl qC_108 rfl rfl (mo_verdictOf_n F d φ x3 x1 _ (by omega) hy) ?_
      show qm_Rn (d + 1) 118 19 [.ref 0, .int x1, .int x2, .int x3] [.int y2, .int x2] (mw φ1) _
      refine qr_le1 (tgt := 34) hC rfl (by decide) rfl (fun hc => ?_) (fun hc => ?_)
      · rw [if_pos hc] at hs
        refine qr_s hC (n := 5) (pc' := 4) (ls' := [.ref 0, .int x1, .int (x2 + 0), .int (x3 + 1)]) (st' := []) (h' := mw φ1) rfl ?_
        exact ih φ1 x1 (x2 + 0) (x3 + 1) _ hs
      · rw [if_neg hc] at hs
        refine qr_s hC (n := 2) (pc' := 24) (ls' := [.ref 0, .int x1, .int x2, .int x3]) (st' := [.int x3, .ref 0, .int x2]) (h' := mw φ1) rfl ?_
        obtain ⟨y3, φ2, hy, hs⟩ := qb2_s hs
        refine qr_c (j := 112) (as := [.ref 0, .int x3]) (rest := [.int x2]) (v := some (.int y3)) (h1 := mw φ2) hC rfl rfl qC_112 rfl rfl (mo_isLeft_n F d φ1 x3 _ (by omega) hy) ?_
        show qm_Rn (d + 1) 118 27 [.ref 0, .int x1, .int x2, .int x3] [.int y3, .int x2] (mw φ2) _
        refine qr_eq1 (tgt := 34) hC rfl (by decide) rfl (fun hc => ?_) (fun hc => ?_)
        · rw [if_pos hc] at hs
          refine qr_s hC (n := 5) (pc' := 4) (ls' := [.ref 0, .int x1, .int (x2 + 0), .int (x3 + 1)]) (st' := []) (h' := mw φ2) rfl ?_
          exact ih φ2 x1 (x2 + 0) (x3 + 1) _ hs
        · rw [if_neg hc] at hs
          refine qr_s hC (n := 6) (pc' := 4) (ls' := [.ref 0, .int x1, .int (x2 + 1), .int (x3 + 1)]) (st' := []) (h' := mw φ2) rfl ?_
          exact ih φ2 x1 (x2 + 1) (x3 + 1) _ hs
set_option maxRecDepth 100000 in
theorem mo_refutesOf_n (F d : Nat) (φ : qm_F) (x1 : Int32) (r : (Int32 × qm_F)) (hd : 49 ≤ d) (hs : mo_refutesOf F φ x1 = some r) : qm_Rn d 118 0 [.ref 0, .int x1, .retAddr 0, .retAddr 0] [] (mw φ) (some (.int r.1), mw r.2) := by
  obtain ⟨d, rfl⟩ : ∃ e, d = e + 1 := ⟨d - 1, by omega⟩
  have hC := qC_118
  unfold mo_refutesOf at hs
  refine qr_s hC (n := 4) (pc' := 4) (ls' := [.ref 0, .int x1, .int 0, .int 0]) (st' := []) (h' := mw φ) rfl ?_
  exact mo_refutesOf_L4_n F (d + 1) (by omega) F φ x1 0 0 _ hs
/-- SketchFillerModel.firstRefuter()I -/
def mo_firstRefuter_L6 (F : Nat) : Nat → Nat → qm_F → Int32 → Int32 → Int32 → Int32 → Option (Int32 × qm_F)
  | 0, _, _, _, _, _, _ => none
  | n + 1, t, φ, x1, x2, x3, s0 =>
    if t = 0 then
      qb1 (mo_inputs F φ) fun y1 =>
      if y1 ≤ x3 then
        some (x1, φ)
      else
        qb2 (mo_verdictOf F φ (φ 0 42) x3) fun y2 φ1 =>
        if ¬ y2 = 0 then
          if ¬ (φ1 0 44) = 0 then
            mo_firstRefuter_L6 F n 1 φ1 x1 x2 x3 0
          else
            if x1 < 0 then
              mo_firstRefuter_L6 F n 1 φ1 x1 x2 x3 0
            else
              some (x1, φ1)
        else
          mo_firstRefuter_L6 F n 0 φ1 x1 x2 (x3 + 1) 0
    else
    if t = 1 then
      if ¬ (φ 0 44) = 2 then
        mo_firstRefuter_L6 F n 2 φ x1 x2 x3 0
      else
        qb2 (mo_refutesOf F φ x3) fun y1 φ1 =>
        mo_firstRefuter_L6 F n 2 φ1 x1 x2 x3 y1
    else
    if ¬ (φ 0 44) = 2 then
      mo_firstRefuter_L6 F n 0 φ x3 s0 (x3 + 1) 0
    else
      if x1 < 0 then
        mo_firstRefuter_L6 F n 0 φ x3 s0 (x3 + 1) 0
      else
        if x2 < s0 then
          mo_firstRefuter_L6 F n 0 φ x3 s0 (x3 + 1) 0
        else
          mo_firstRefuter_L6 F n 0 φ x1 x2 (x3 + 1) 0
def mo_firstRefuter (F : Nat) (φ : qm_F) : Option (Int32 × qm_F) :=
  mo_firstRefuter_L6 F F 0 φ (-1) 0 0 0
set_option maxRecDepth 100000 in
theorem mo_firstRefuter_L6_n0 (F d : Nat) (hd : 50 ≤ d) : ∀ (n t : Nat) (φ : qm_F) (x1 : Int32) (x2 : Int32) (x3 : Int32) (s0 : Int32) (r : (Int32 × qm_F)), mo_firstRefuter_L6 F n t φ x1 x2 x3 s0 = some r → (t = 0 → qm_Rn d 119 6 [.ref 0, .int x1, .int x2, .int x3, .retAddr 0] [] (mw φ) (some (.int r.1), mw r.2)) ∧ (t = 1 → qm_Rn d 119 42 [.ref 0, .int x1, .int x2, .int x3, .retAddr 0] [] (mw φ) (some (.int r.1), mw r.2)) ∧ (t ≠ 0 ∧ t ≠ 1 → qm_Rn d 119 59 [.ref 0, .int x1, .int x2, .int x3, .retAddr 0] [.int s0] (mw φ) (some (.int r.1), mw r.2)) := by
  obtain ⟨d, rfl⟩ : ∃ e, d = e + 1 := ⟨d - 1, by omega⟩
  have hC := qC_119
  intro n
  induction n with
  | zero => intro t φ x1 x2 x3 s0 r hs; simp [mo_firstRefuter_L6] at hs
  | succ n ihh =>
    intro t φ x1 x2 x3 s0 r hs
    rw [mo_firstRefuter_L6] at hs
    have ih0 : ∀ (φ : qm_F) (x1 : Int32) (x2 : Int32) (x3 : Int32) (s0 : Int32) (r : (Int32 × qm_F)), mo_firstRefuter_L6 F n 0 φ x1 x2 x3 s0 = some r → _ := fun φ x1 x2 x3 s0 r q => (ihh 0 φ x1 x2 x3 s0 r q).1 rfl
    have ih1 : ∀ (φ : qm_F) (x1 : Int32) (x2 : Int32) (x3 : Int32) (s0 : Int32) (r : (Int32 × qm_F)), mo_firstRefuter_L6 F n 1 φ x1 x2 x3 s0 = some r → _ := fun φ x1 x2 x3 s0 r q => (ihh 1 φ x1 x2 x3 s0 r q).2.1 rfl
    have ih2 : ∀ (φ : qm_F) (x1 : Int32) (x2 : Int32) (x3 : Int32) (s0 : Int32) (r : (Int32 × qm_F)), mo_firstRefuter_L6 F n 2 φ x1 x2 x3 s0 = some r → _ := fun φ x1 x2 x3 s0 r q => (ihh 2 φ x1 x2 x3 s0 r q).2.2 ⟨by decide, by decide⟩
    refine ⟨fun ht => ?_, fun ht => ?_, fun ht => ?_⟩
    · subst ht
      rw [if_pos rfl] at hs
      refine qr_s hC (n := 2) (pc' := 8) (ls' := [.ref 0, .int x1, .int x2, .int x3, .retAddr 0]) (st' := [.ref 0, .int x3]) (h' := mw φ) rfl ?_
      obtain ⟨y1, hy, hs⟩ := qb1_s hs
      refine qr_c (j := 79) (as := [.ref 0]) (rest := [.int x3]) (v := some (.int y1)) (h1 := mw φ) hC rfl rfl qC_79 rfl rfl (mo_inputs_n F d φ _ (by omega) hy) ?_
      show qm_Rn (d + 1) 119 11 [.ref 0, .int x1, .int x2, .int x3, .retAddr 0] [.int y1, .int x3] (mw φ) _
      refine qr_ge2 (tgt := 93) hC rfl (by decide) rfl (fun hc => ?_) (fun hc => ?_)
      · rw [if_pos hc] at hs
        refine qr_s hC (n := 1) (pc' := 94) (ls' := [.ref 0, .int x1, .int x2, .int x3, .retAddr 0]) (st' := [.int x1]) (h' := mw φ) rfl ?_
        have hs := Option.some.inj hs
        subst hs
        exact qr_r hC rfl rfl
      · rw [if_neg hc] at hs
        refine qr_s hC (n := 4) (pc' := 20) (ls' := [.ref 0, .int x1, .int x2, .int x3, .retAddr 0]) (st' := [.int x3, .int (φ 0 42), .ref 0]) (h' := mw φ) rfl ?_
        obtain ⟨y2, φ1, hy, hs⟩ := qb2_s hs
        refine qr_c (j := 108) (as := [.ref 0, .int (φ 0 42), .int x3]) (rest := []) (v := some (.int y2)) (h1 := mw φ1) hC rfl rfl qC_108 rfl rfl (mo_verdictOf_n F d φ (φ 0 42) x3 _ (by omega) hy) ?_
        show qm_Rn (d + 1) 119 23 [.ref 0, .int x1, .int x2, .int x3, .retAddr 0] [.int y2] (mw φ1) _
        refine qr_ne1 (tgt := 29) hC rfl (by decide) rfl (fun hc => ?_) (fun hc => ?_)
        · rw [if_pos hc] at hs
          refine qr_s hC (n := 2) (pc' := 33) (ls' := [.ref 0, .int x1, .int x2, .int x3, .retAddr 0]) (st' := [.int (φ1 0 44)]) (h' := mw φ1) rfl ?_
          refine qr_ne1 (tgt := 42) hC rfl (by decide) rfl (fun hc => ?_) (fun hc => ?_)
          · rw [if_pos hc] at hs
            exact (ih1 φ1 x1 x2 x3 0 _ hs)
          · rw [if_neg hc] at hs
            refine qr_s hC (n := 1) (pc' := 37) (ls' := [.ref 0, .int x1, .int x2, .int x3, .retAddr 0]) (st' := [.int x1]) (h' := mw φ1) rfl ?_
            refine qr_lt1 (tgt := 42) hC rfl (by decide) rfl (fun hc => ?_) (fun hc => ?_)
            · rw [if_pos hc] at hs
              exact (ih1 φ1 x1 x2 x3 0 _ hs)
            · rw [if_neg hc] at hs
              refine qr_s hC (n := 1) (pc' := 41) (ls' := [.ref 0, .int x1, .int x2, .int x3, .retAddr 0]) (st' := [.int x1]) (h' := mw φ1) rfl ?_
              have hs := Option.some.inj hs
              subst hs
              exact qr_r hC rfl rfl
        · rw [if_neg hc] at hs
          refine qr_s hC (n := 3) (pc' := 6) (ls' := [.ref 0, .int x1, .int x2, .int (x3 + 1), .retAddr 0]) (st' := []) (h' := mw φ1) rfl ?_
          exact (ih0 φ1 x1 x2 (x3 + 1) 0 _ hs)
    · subst ht
      rw [if_neg (by decide)] at hs
      rw [if_pos rfl] at hs
      refine qr_s hC (n := 3) (pc' := 47) (ls' := [.ref 0, .int x1, .int x2, .int x3, .retAddr 0]) (st' := [.int 2, .int (φ 0 44)]) (h' := mw φ) rfl ?_
      refine qr_ne2 (tgt := 58) hC rfl (by decide) rfl (fun hc => ?_) (fun hc => ?_)
      · rw [if_pos hc] at hs
        refine qr_s hC (n := 1) (pc' := 59) (ls' := [.ref 0, .int x1, .int x2, .int x3, .retAddr 0]) (st' := [.int 0]) (h' := mw φ) rfl ?_
        exact (ih2 φ x1 x2 x3 0 _ hs)
      · rw [if_neg hc] at hs
        refine qr_s hC (n := 2) (pc' := 52) (ls' := [.ref 0, .int x1, .int x2, .int x3, .retAddr 0]) (st' := [.int x3, .ref 0]) (h' := mw φ) rfl ?_
        obtain ⟨y1, φ1, hy, hs⟩ := qb2_s hs
        refine qr_c (j := 118) (as := [.ref 0, .int x3]) (rest := []) (v := some (.int y1)) (h1 := mw φ1) hC rfl rfl qC_118 rfl rfl (mo_refutesOf_n F d φ x3 _ (by omega) hy) ?_
        show qm_Rn (d + 1) 119 55 [.ref 0, .int x1, .int x2, .int x3, .retAddr 0] [.int y1] (mw φ1) _
        refine qr_s hC (n := 1) (pc' := 59) (ls' := [.ref 0, .int x1, .int x2, .int x3, .retAddr 0]) (st' := [.int y1]) (h' := mw φ1) rfl ?_
        exact (ih2 φ1 x1 x2 x3 y1 _ hs)
    · obtain ⟨ht0, ht1⟩ := ht
      rw [if_neg ht0] at hs
      rw [if_neg ht1] at hs
      refine qr_s hC (n := 4) (pc' := 66) (ls' := [.ref 0, .int x1, .int x2, .int x3, .int s0]) (st' := [.int 2, .int (φ 0 44)]) (h' := mw φ) rfl ?_
      refine qr_ne2 (tgt := 82) hC rfl (by decide) rfl (fun hc => ?_) (fun hc => ?_)
      · rw [if_pos hc] at hs
        refine qr_s hC (n := 6) (pc' := 6) (ls' := [.ref 0, .int x3, .int s0, .int (x3 + 1), .int s0]) (st' := []) (h' := mw φ) rfl ?_
        exact qr_w (a := [.ref 0, .int x3, .int s0, .int (x3 + 1), .retAddr 0]) ⟨Or.inr rfl, Or.inr rfl, Or.inr rfl, Or.inr rfl, Or.inl rfl, trivial⟩ (ih0 φ x3 s0 (x3 + 1) 0 _ hs)
      · rw [if_neg hc] at hs
        refine qr_s hC (n := 1) (pc' := 70) (ls' := [.ref 0, .int x1, .int x2, .int x3, .int s0]) (st' := [.int x1]) (h' := mw φ) rfl ?_
        refine qr_lt1 (tgt := 82) hC rfl (by decide) rfl (fun hc => ?_) (fun hc => ?_)
        · rw [if_pos hc] at hs
          refine qr_s hC (n := 6) (pc' := 6) (ls' := [.ref 0, .int x3, .int s0, .int (x3 + 1), .int s0]) (st' := []) (h' := mw φ) rfl ?_
          exact qr_w (a := [.ref 0, .int x3, .int s0, .int (x3 + 1), .retAddr 0]) ⟨Or.inr rfl, Or.inr rfl, Or.inr rfl, Or.inr rfl, Or.inl rfl, trivial⟩ (ih0 φ x3 s0 (x3 + 1) 0 _ hs)
        · rw [if_neg hc] at hs
          refine qr_s hC (n := 2) (pc' := 76) (ls' := [.ref 0, .int x1, .int x2, .int x3, .int s0]) (st' := [.int x2, .int s0]) (h' := mw φ) rfl ?_
          refine qr_gt2 (tgt := 82) hC rfl (by decide) rfl (fun hc => ?_) (fun hc => ?_)
          · rw [if_pos hc] at hs
            refine qr_s hC (n := 6) (pc' := 6) (ls' := [.ref 0, .int x3, .int s0, .int (x3 + 1), .int s0]) (st' := []) (h' := mw φ) rfl ?_
            exact qr_w (a := [.ref 0, .int x3, .int s0, .int (x3 + 1), .retAddr 0]) ⟨Or.inr rfl, Or.inr rfl, Or.inr rfl, Or.inr rfl, Or.inl rfl, trivial⟩ (ih0 φ x3 s0 (x3 + 1) 0 _ hs)
          · rw [if_neg hc] at hs
            refine qr_s hC (n := 3) (pc' := 6) (ls' := [.ref 0, .int x1, .int x2, .int (x3 + 1), .int s0]) (st' := []) (h' := mw φ) rfl ?_
            exact qr_w (a := [.ref 0, .int x1, .int x2, .int (x3 + 1), .retAddr 0]) ⟨Or.inr rfl, Or.inr rfl, Or.inr rfl, Or.inr rfl, Or.inl rfl, trivial⟩ (ih0 φ x1 x2 (x3 + 1) 0 _ hs)
theorem mo_firstRefuter_L6_n_t0 (F d : Nat) (hd : 50 ≤ d) (n : Nat) (φ : qm_F) (x1 : Int32) (x2 : Int32) (x3 : Int32) (s0 : Int32) (r : (Int32 × qm_F)) (hs : mo_firstRefuter_L6 F n 0 φ x1 x2 x3 s0 = some r) : qm_Rn d 119 6 [.ref 0, .int x1, .int x2, .int x3, .retAddr 0] [] (mw φ) (some (.int r.1), mw r.2) := (mo_firstRefuter_L6_n0 F d hd n 0 φ x1 x2 x3 s0 r hs).1 rfl
theorem mo_firstRefuter_L6_n_t1 (F d : Nat) (hd : 50 ≤ d) (n : Nat) (φ : qm_F) (x1 : Int32) (x2 : Int32) (x3 : Int32) (s0 : Int32) (r : (Int32 × qm_F)) (hs : mo_firstRefuter_L6 F n 1 φ x1 x2 x3 s0 = some r) : qm_Rn d 119 42 [.ref 0, .int x1, .int x2, .int x3, .retAddr 0] [] (mw φ) (some (.int r.1), mw r.2) := (mo_firstRefuter_L6_n0 F d hd n 1 φ x1 x2 x3 s0 r hs).2.1 rfl
theorem mo_firstRefuter_L6_n_t2 (F d : Nat) (hd : 50 ≤ d) (n : Nat) (φ : qm_F) (x1 : Int32) (x2 : Int32) (x3 : Int32) (s0 : Int32) (r : (Int32 × qm_F)) (hs : mo_firstRefuter_L6 F n 2 φ x1 x2 x3 s0 = some r) : qm_Rn d 119 59 [.ref 0, .int x1, .int x2, .int x3, .retAddr 0] [.int s0] (mw φ) (some (.int r.1), mw r.2) := (mo_firstRefuter_L6_n0 F d hd n 2 φ x1 x2 x3 s0 r hs).2.2 ⟨by decide, by decide⟩
set_option maxRecDepth 100000 in
theorem mo_firstRefuter_n (F d : Nat) (φ : qm_F) (r : (Int32 × qm_F)) (hd : 50 ≤ d) (hs : mo_firstRefuter F φ = some r) : qm_Rn d 119 0 [.ref 0, .retAddr 0, .retAddr 0, .retAddr 0, .retAddr 0] [] (mw φ) (some (.int r.1), mw r.2) := by
  obtain ⟨d, rfl⟩ : ∃ e, d = e + 1 := ⟨d - 1, by omega⟩
  have hC := qC_119
  unfold mo_firstRefuter at hs
  refine qr_s hC (n := 6) (pc' := 6) (ls' := [.ref 0, .int (-1), .int 0, .int 0, .retAddr 0]) (st' := []) (h' := mw φ) rfl ?_
  exact (mo_firstRefuter_L6_n_t0 F (d + 1) (by omega) F φ (-1) 0 0 0 _ hs)
/-- SketchFillerModel.checking()I -/
def mo_checking (F : Nat) (φ : qm_F) : Option (Int32 × qm_F) :=
  qb2 (mo_firstRefuter F φ) fun y1 φ1 =>
  if 0 ≤ y1 then
    if ¬ (φ1 0 45) = 40 then
      qg (qm_in (φ1 0 45) 40) <|
      some (y1, (qm_u (qm_u (qm_u φ1 20 ((φ1 0 45).toNatClampNeg) y1) 0 45 ((φ1 0 45) + 1)) 0 42 (-1)))
    else
      some ((-3), φ1)
  else
    some ((-2), (qm_u φ1 0 41 1))
set_option maxRecDepth 100000 in
theorem mo_checking_n (F d : Nat) (φ : qm_F) (r : (Int32 × qm_F)) (hd : 51 ≤ d) (hs : mo_checking F φ = some r) : qm_Rn d 120 0 [.ref 0, .retAddr 0] [] (mw φ) (some (.int r.1), mw r.2) := by
  obtain ⟨d, rfl⟩ : ∃ e, d = e + 1 := ⟨d - 1, by omega⟩
  have hC := qC_120
  unfold mo_checking at hs
  refine qr_s hC (n := 1) (pc' := 1) (ls' := [.ref 0, .retAddr 0]) (st' := [.ref 0]) (h' := mw φ) rfl ?_
  obtain ⟨y1, φ1, hy, hs⟩ := qb2_s hs
  refine qr_c (j := 119) (as := [.ref 0]) (rest := []) (v := some (.int y1)) (h1 := mw φ1) hC rfl rfl qC_119 rfl rfl (mo_firstRefuter_n F d φ _ (by omega) hy) ?_
  show qm_Rn (d + 1) 120 4 [.ref 0, .retAddr 0] [.int y1] (mw φ1) _
  refine qr_s hC (n := 2) (pc' := 6) (ls' := [.ref 0, .int y1]) (st' := [.int y1]) (h' := mw φ1) rfl ?_
  refine qr_ge1 (tgt := 17) hC rfl (by decide) rfl (fun hc => ?_) (fun hc => ?_)
  · rw [if_pos hc] at hs
    refine qr_s hC (n := 3) (pc' := 23) (ls' := [.ref 0, .int y1]) (st' := [.int 40, .int (φ1 0 45)]) (h' := mw φ1) rfl ?_
    refine qr_ne2 (tgt := 29) hC rfl (by decide) rfl (fun hc => ?_) (fun hc => ?_)
    · rw [if_pos hc] at hs
      refine qr_s hC (n := 5) (pc' := 38) (ls' := [.ref 0, .int y1]) (st' := [.int y1, .int (φ1 0 45), .ref 20]) (h' := mw φ1) rfl ?_
      obtain ⟨hq, hs⟩ := qg_s hs
      refine qr_is (h' := mw (qm_u φ1 20 ((φ1 0 45).toNatClampNeg) y1)) hC rfl rfl hq rfl ?_
      refine qr_s hC (n := 10) (pc' := 55) (ls' := [.ref 0, .int y1]) (st' := [.int y1]) (h' := mw (qm_u (qm_u (qm_u φ1 20 ((φ1 0 45).toNatClampNeg) y1) 0 45 ((φ1 0 45) + 1)) 0 42 (-1))) rfl ?_
      have hs := Option.some.inj hs
      subst hs
      exact qr_r hC rfl rfl
    · rw [if_neg hc] at hs
      refine qr_s hC (n := 1) (pc' := 28) (ls' := [.ref 0, .int y1]) (st' := [.int (-3)]) (h' := mw φ1) rfl ?_
      have hs := Option.some.inj hs
      subst hs
      exact qr_r hC rfl rfl
  · rw [if_neg hc] at hs
    refine qr_s hC (n := 4) (pc' := 16) (ls' := [.ref 0, .int y1]) (st' := [.int (-2)]) (h' := mw (qm_u φ1 0 41 1)) rfl ?_
    have hs := Option.some.inj hs
    subst hs
    exact qr_r hC rfl rfl
/-- SketchFillerModel.check()I -/
def mo_check (F : Nat) (φ : qm_F) : Option (Int32 × qm_F) :=
  if (φ 0 12) = 0 then
    some ((-1), (qm_u φ 0 0 0))
  else
    if ¬ (φ 0 41) = 0 then
      some ((-1), (qm_u φ 0 0 0))
    else
      if (φ 0 42) < 0 then
        some ((-1), (qm_u φ 0 0 0))
      else
        qb2 (mo_checking F (qm_u φ 0 0 0)) fun y1 φ1 =>
        some (y1, φ1)
set_option maxRecDepth 100000 in
theorem mo_check_n (F d : Nat) (φ : qm_F) (r : (Int32 × qm_F)) (hd : 52 ≤ d) (hs : mo_check F φ = some r) : qm_Rn d 121 0 [.ref 0] [] (mw φ) (some (.int r.1), mw r.2) := by
  obtain ⟨d, rfl⟩ : ∃ e, d = e + 1 := ⟨d - 1, by omega⟩
  have hC := qC_121
  unfold mo_check at hs
  refine qr_s hC (n := 5) (pc' := 9) (ls' := [.ref 0]) (st' := [.int (φ 0 12)]) (h' := mw (qm_u φ 0 0 0)) rfl ?_
  refine qr_eq1 (tgt := 33) hC rfl (by decide) rfl (fun hc => ?_) (fun hc => ?_)
  · rw [if_pos hc] at hs
    refine qr_s hC (n := 1) (pc' := 34) (ls' := [.ref 0]) (st' := [.int (-1)]) (h' := mw (qm_u φ 0 0 0)) rfl ?_
    have hs := Option.some.inj hs
    subst hs
    exact qr_r hC rfl rfl
  · rw [if_neg hc] at hs
    refine qr_s hC (n := 2) (pc' := 16) (ls' := [.ref 0]) (st' := [.int (φ 0 41)]) (h' := mw (qm_u φ 0 0 0)) rfl ?_
    refine qr_ne1 (tgt := 33) hC rfl (by decide) rfl (fun hc => ?_) (fun hc => ?_)
    · rw [if_pos hc] at hs
      refine qr_s hC (n := 1) (pc' := 34) (ls' := [.ref 0]) (st' := [.int (-1)]) (h' := mw (qm_u φ 0 0 0)) rfl ?_
      have hs := Option.some.inj hs
      subst hs
      exact qr_r hC rfl rfl
    · rw [if_neg hc] at hs
      refine qr_s hC (n := 2) (pc' := 23) (ls' := [.ref 0]) (st' := [.int (φ 0 42)]) (h' := mw (qm_u φ 0 0 0)) rfl ?_
      refine qr_lt1 (tgt := 33) hC rfl (by decide) rfl (fun hc => ?_) (fun hc => ?_)
      · rw [if_pos hc] at hs
        refine qr_s hC (n := 1) (pc' := 34) (ls' := [.ref 0]) (st' := [.int (-1)]) (h' := mw (qm_u φ 0 0 0)) rfl ?_
        have hs := Option.some.inj hs
        subst hs
        exact qr_r hC rfl rfl
      · rw [if_neg hc] at hs
        refine qr_s hC (n := 1) (pc' := 27) (ls' := [.ref 0]) (st' := [.ref 0]) (h' := mw (qm_u φ 0 0 0)) rfl ?_
        obtain ⟨y1, φ1, hy, hs⟩ := qb2_s hs
        refine qr_c (j := 120) (as := [.ref 0]) (rest := []) (v := some (.int y1)) (h1 := mw φ1) hC rfl rfl qC_120 rfl rfl (mo_checking_n F d (qm_u φ 0 0 0) _ (by omega) hy) ?_
        show qm_Rn (d + 1) 121 30 [.ref 0] [.int y1] (mw φ1) _
        refine qr_s hC (n := 1) (pc' := 34) (ls' := [.ref 0]) (st' := [.int y1]) (h' := mw φ1) rfl ?_
        have hs := Option.some.inj hs
        subst hs
        exact qr_r hC rfl rfl
/-- SketchFillerModel.go(I)I -/
def mo_go_L28 (F : Nat) : Nat → Nat → qm_F → Int32 → Int32 → Int32 → Option (Int32 × qm_F)
  | 0, _, _, _, _, _ => none
  | n + 1, t, φ, x1, x2, s0 =>
    if t = 0 then
      if x1 ≤ x2 then
        some (x2, φ)
      else
        if ¬ (φ 0 41) = 0 then
          some (x2, φ)
        else
          if 0 ≤ (φ 0 42) then
            qb2 (mo_checking F φ) fun y1 φ1 =>
            mo_go_L28 F n 1 φ1 x1 x2 y1
          else
            qb2 (mo_guessing F φ) fun y2 φ2 =>
            mo_go_L28 F n 1 φ2 x1 x2 y2
    else
    if ¬ s0 = (-3) then
      mo_go_L28 F n 0 φ x1 (x2 + 1) 0
    else
      some (x2, φ)
def mo_go (F : Nat) (φ : qm_F) (x1 : Int32) : Option (Int32 × qm_F) :=
  if (φ 0 12) = 0 then
    some ((-1), (qm_u φ 0 0 0))
  else
    qb1 (mo_within F (qm_u φ 0 0 0) (Int32.toInt64 x1) 1 100) fun y1 =>
    if ¬ y1 = 0 then
      mo_go_L28 F F 0 (qm_u φ 0 0 0) x1 0 0
    else
      some ((-1), (qm_u φ 0 0 0))
set_option maxRecDepth 100000 in
theorem mo_go_L28_n0 (F d : Nat) (hd : 52 ≤ d) : ∀ (n t : Nat) (φ : qm_F) (x1 : Int32) (x2 : Int32) (s0 : Int32) (r : (Int32 × qm_F)), mo_go_L28 F n t φ x1 x2 s0 = some r → (t = 0 → qm_Rn d 122 28 [.ref 0, .int x1, .int x2, .retAddr 0] [] (mw φ) (some (.int r.1), mw r.2)) ∧ (t ≠ 0 → qm_Rn d 122 58 [.ref 0, .int x1, .int x2, .retAddr 0] [.int s0] (mw φ) (some (.int r.1), mw r.2)) := by
  obtain ⟨d, rfl⟩ : ∃ e, d = e + 1 := ⟨d - 1, by omega⟩
  have hC := qC_122
  intro n
  induction n with
  | zero => intro t φ x1 x2 s0 r hs; simp [mo_go_L28] at hs
  | succ n ihh =>
    intro t φ x1 x2 s0 r hs
    rw [mo_go_L28] at hs
    have ih0 : ∀ (φ : qm_F) (x1 : Int32) (x2 : Int32) (s0 : Int32) (r : (Int32 × qm_F)), mo_go_L28 F n 0 φ x1 x2 s0 = some r → _ := fun φ x1 x2 s0 r q => (ihh 0 φ x1 x2 s0 r q).1 rfl
    have ih1 : ∀ (φ : qm_F) (x1 : Int32) (x2 : Int32) (s0 : Int32) (r : (Int32 × qm_F)), mo_go_L28 F n 1 φ x1 x2 s0 = some r → _ := fun φ x1 x2 s0 r q => (ihh 1 φ x1 x2 s0 r q).2 (by decide)
    refine ⟨fun ht => ?_, fun ht => ?_⟩
    · subst ht
      rw [if_pos rfl] at hs
      refine qr_s hC (n := 2) (pc' := 30) (ls' := [.ref 0, .int x1, .int x2, .retAddr 0]) (st' := [.int x1, .int x2]) (h' := mw φ) rfl ?_
      refine qr_ge2 (tgt := 73) hC rfl (by decide) rfl (fun hc => ?_) (fun hc => ?_)
      · rw [if_pos hc] at hs
        refine qr_s hC (n := 1) (pc' := 74) (ls' := [.ref 0, .int x1, .int x2, .retAddr 0]) (st' := [.int x2]) (h' := mw φ) rfl ?_
        have hs := Option.some.inj hs
        subst hs
        exact qr_r hC rfl rfl
      · rw [if_neg hc] at hs
        refine qr_s hC (n := 2) (pc' := 37) (ls' := [.ref 0, .int x1, .int x2, .retAddr 0]) (st' := [.int (φ 0 41)]) (h' := mw φ) rfl ?_
        refine qr_ne1 (tgt := 73) hC rfl (by decide) rfl (fun hc => ?_) (fun hc => ?_)
        · rw [if_pos hc] at hs
          refine qr_s hC (n := 1) (pc' := 74) (ls' := [.ref 0, .int x1, .int x2, .retAddr 0]) (st' := [.int x2]) (h' := mw φ) rfl ?_
          have hs := Option.some.inj hs
          subst hs
          exact qr_r hC rfl rfl
        · rw [if_neg hc] at hs
          refine qr_s hC (n := 2) (pc' := 44) (ls' := [.ref 0, .int x1, .int x2, .retAddr 0]) (st' := [.int (φ 0 42)]) (h' := mw φ) rfl ?_
          refine qr_ge1 (tgt := 54) hC rfl (by decide) rfl (fun hc => ?_) (fun hc => ?_)
          · rw [if_pos hc] at hs
            refine qr_s hC (n := 1) (pc' := 55) (ls' := [.ref 0, .int x1, .int x2, .retAddr 0]) (st' := [.ref 0]) (h' := mw φ) rfl ?_
            obtain ⟨y1, φ1, hy, hs⟩ := qb2_s hs
            refine qr_c (j := 120) (as := [.ref 0]) (rest := []) (v := some (.int y1)) (h1 := mw φ1) hC rfl rfl qC_120 rfl rfl (mo_checking_n F d φ _ (by omega) hy) ?_
            show qm_Rn (d + 1) 122 58 [.ref 0, .int x1, .int x2, .retAddr 0] [.int y1] (mw φ1) _
            exact (ih1 φ1 x1 x2 y1 _ hs)
          · rw [if_neg hc] at hs
            refine qr_s hC (n := 1) (pc' := 48) (ls' := [.ref 0, .int x1, .int x2, .retAddr 0]) (st' := [.ref 0]) (h' := mw φ) rfl ?_
            obtain ⟨y2, φ2, hy, hs⟩ := qb2_s hs
            refine qr_c (j := 116) (as := [.ref 0]) (rest := []) (v := some (.int y2)) (h1 := mw φ2) hC rfl rfl qC_116 rfl rfl (mo_guessing_n F d φ _ (by omega) hy) ?_
            show qm_Rn (d + 1) 122 51 [.ref 0, .int x1, .int x2, .retAddr 0] [.int y2] (mw φ2) _
            refine qr_s hC (n := 1) (pc' := 58) (ls' := [.ref 0, .int x1, .int x2, .retAddr 0]) (st' := [.int y2]) (h' := mw φ2) rfl ?_
            exact (ih1 φ2 x1 x2 y2 _ hs)
    · have ht0 := ht
      rw [if_neg ht0] at hs
      refine qr_s hC (n := 3) (pc' := 62) (ls' := [.ref 0, .int x1, .int x2, .int s0]) (st' := [.int (-3), .int s0]) (h' := mw φ) rfl ?_
      refine qr_ne2 (tgt := 67) hC rfl (by decide) rfl (fun hc => ?_) (fun hc => ?_)
      · rw [if_pos hc] at hs
        refine qr_s hC (n := 2) (pc' := 28) (ls' := [.ref 0, .int x1, .int (x2 + 1), .int s0]) (st' := []) (h' := mw φ) rfl ?_
        exact qr_w (a := [.ref 0, .int x1, .int (x2 + 1), .retAddr 0]) ⟨Or.inr rfl, Or.inr rfl, Or.inr rfl, Or.inl rfl, trivial⟩ (ih0 φ x1 (x2 + 1) 0 _ hs)
      · rw [if_neg hc] at hs
        refine qr_s hC (n := 1) (pc' := 66) (ls' := [.ref 0, .int x1, .int x2, .int s0]) (st' := [.int x2]) (h' := mw φ) rfl ?_
        have hs := Option.some.inj hs
        subst hs
        exact qr_r hC rfl rfl
theorem mo_go_L28_n_t0 (F d : Nat) (hd : 52 ≤ d) (n : Nat) (φ : qm_F) (x1 : Int32) (x2 : Int32) (s0 : Int32) (r : (Int32 × qm_F)) (hs : mo_go_L28 F n 0 φ x1 x2 s0 = some r) : qm_Rn d 122 28 [.ref 0, .int x1, .int x2, .retAddr 0] [] (mw φ) (some (.int r.1), mw r.2) := (mo_go_L28_n0 F d hd n 0 φ x1 x2 s0 r hs).1 rfl
theorem mo_go_L28_n_t1 (F d : Nat) (hd : 52 ≤ d) (n : Nat) (φ : qm_F) (x1 : Int32) (x2 : Int32) (s0 : Int32) (r : (Int32 × qm_F)) (hs : mo_go_L28 F n 1 φ x1 x2 s0 = some r) : qm_Rn d 122 58 [.ref 0, .int x1, .int x2, .retAddr 0] [.int s0] (mw φ) (some (.int r.1), mw r.2) := (mo_go_L28_n0 F d hd n 1 φ x1 x2 s0 r hs).2 (by decide)
set_option maxRecDepth 100000 in
theorem mo_go_n (F d : Nat) (φ : qm_F) (x1 : Int32) (r : (Int32 × qm_F)) (hd : 52 ≤ d) (hs : mo_go F φ x1 = some r) : qm_Rn d 122 0 [.ref 0, .int x1, .retAddr 0, .retAddr 0] [] (mw φ) (some (.int r.1), mw r.2) := by
  obtain ⟨d, rfl⟩ : ∃ e, d = e + 1 := ⟨d - 1, by omega⟩
  have hC := qC_122
  unfold mo_go at hs
  refine qr_s hC (n := 5) (pc' := 9) (ls' := [.ref 0, .int x1, .retAddr 0, .retAddr 0]) (st' := [.int (φ 0 12)]) (h' := mw (qm_u φ 0 0 0)) rfl ?_
  refine qr_eq1 (tgt := 24) hC rfl (by decide) rfl (fun hc => ?_) (fun hc => ?_)
  · rw [if_pos hc] at hs
    refine qr_s hC (n := 1) (pc' := 25) (ls' := [.ref 0, .int x1, .retAddr 0, .retAddr 0]) (st' := [.int (-1)]) (h' := mw (qm_u φ 0 0 0)) rfl ?_
    have hs := Option.some.inj hs
    subst hs
    exact qr_r hC rfl rfl
  · rw [if_neg hc] at hs
    refine qr_s hC (n := 4) (pc' := 18) (ls' := [.ref 0, .int x1, .retAddr 0, .retAddr 0]) (st' := [.long 100, .long 1, .long (Int32.toInt64 x1)]) (h' := mw (qm_u φ 0 0 0)) rfl ?_
    obtain ⟨y1, hy, hs⟩ := qb1_s hs
    refine qr_c (j := 31) (as := [.long (Int32.toInt64 x1), .long 1, .long 100]) (rest := []) (v := some (.int y1)) (h1 := mw (qm_u φ 0 0 0)) hC rfl rfl qC_31 rfl rfl (mo_within_n F d (qm_u φ 0 0 0) (Int32.toInt64 x1) 1 100 _ (by omega) hy) ?_
    show qm_Rn (d + 1) 122 21 [.ref 0, .int x1, .retAddr 0, .retAddr 0] [.int y1] (mw (qm_u φ 0 0 0)) _
    refine qr_ne1 (tgt := 26) hC rfl (by decide) rfl (fun hc => ?_) (fun hc => ?_)
    · rw [if_pos hc] at hs
      refine qr_s hC (n := 2) (pc' := 28) (ls' := [.ref 0, .int x1, .int 0, .retAddr 0]) (st' := []) (h' := mw (qm_u φ 0 0 0)) rfl ?_
      exact (mo_go_L28_n_t0 F (d + 1) (by omega) F (qm_u φ 0 0 0) x1 0 0 _ hs)
    · rw [if_neg hc] at hs
      refine qr_s hC (n := 1) (pc' := 25) (ls' := [.ref 0, .int x1, .retAddr 0, .retAddr 0]) (st' := [.int (-1)]) (h' := mw (qm_u φ 0 0 0)) rfl ?_
      have hs := Option.some.inj hs
      subst hs
      exact qr_r hC rfl rfl
/-- SketchFillerModel.seeks()V -/
def mo_seeks (F : Nat) (φ : qm_F) : Option qm_F :=
  some (qm_u (qm_u φ 0 41 0) 0 42 (-1))
set_option maxRecDepth 100000 in
theorem mo_seeks_n (F d : Nat) (φ : qm_F) (r : qm_F) (hd : 0 ≤ d) (hs : mo_seeks F φ = some r) : qm_Rn d 123 0 [.ref 0] [] (mw φ) (none, mw r) := by
  have hC := qC_123
  unfold mo_seeks at hs
  refine qr_s hC (n := 6) (pc' := 10) (ls' := [.ref 0]) (st' := []) (h' := mw (qm_u (qm_u φ 0 41 0) 0 42 (-1))) rfl ?_
  have hs := Option.some.inj hs
  subst hs
  exact qr_r hC rfl rfl
/-- SketchFillerModel.pin(II)Z -/
def mo_pin (F : Nat) (φ : qm_F) (x1 : Int32) (x2 : Int32) : Option (Int32 × qm_F) :=
  qb1 (mo_isHole F (qm_u φ 0 0 0) x1) fun y1 =>
  if y1 = 0 then
    some (0, (qm_u φ 0 0 0))
  else
    qg (qm_in (3 + x1) 30) <|
    qb1 (mo_within F (qm_u φ 0 0 0) (Int32.toInt64 x2) (-1) (Int32.toInt64 ((1 <<< ((φ 4 ((3 + x1).toNatClampNeg)) &&& 31)) - 1))) fun y2 =>
    if y2 = 0 then
      some (0, (qm_u φ 0 0 0))
    else
      qg (qm_in x1 5) <|
      if ¬ (φ 15 x1.toNatClampNeg) = x2 then
        qg (qm_in x1 5) <|
        qb1 (mo_seeks F (qm_u (qm_u φ 0 0 0) 15 x1.toNatClampNeg x2)) fun φ1 =>
        some (1, φ1)
      else
        some (0, (qm_u φ 0 0 0))
set_option maxRecDepth 100000 in
theorem mo_pin_n (F d : Nat) (φ : qm_F) (x1 : Int32) (x2 : Int32) (r : (Int32 × qm_F)) (hd : 2 ≤ d) (hs : mo_pin F φ x1 x2 = some r) : qm_Rn d 124 0 [.ref 0, .int x1, .int x2] [] (mw φ) (some (.int r.1), mw r.2) := by
  obtain ⟨d, rfl⟩ : ∃ e, d = e + 1 := ⟨d - 1, by omega⟩
  have hC := qC_124
  unfold mo_pin at hs
  refine qr_s hC (n := 5) (pc' := 7) (ls' := [.ref 0, .int x1, .int x2]) (st' := [.int x1, .ref 0]) (h' := mw (qm_u φ 0 0 0)) rfl ?_
  obtain ⟨y1, hy, hs⟩ := qb1_s hs
  refine qr_c (j := 82) (as := [.ref 0, .int x1]) (rest := []) (v := some (.int y1)) (h1 := mw (qm_u φ 0 0 0)) hC rfl rfl qC_82 rfl rfl (mo_isHole_n F d (qm_u φ 0 0 0) x1 _ (by omega) hy) ?_
  show qm_Rn (d + 1) 124 10 [.ref 0, .int x1, .int x2] [.int y1] (mw (qm_u φ 0 0 0)) _
  refine qr_eq1 (tgt := 47) hC rfl (by decide) rfl (fun hc => ?_) (fun hc => ?_)
  · rw [if_pos hc] at hs
    refine qr_s hC (n := 1) (pc' := 48) (ls' := [.ref 0, .int x1, .int x2]) (st' := [.int 0]) (h' := mw (qm_u φ 0 0 0)) rfl ?_
    have hs := Option.some.inj hs
    subst hs
    exact qr_r hC rfl rfl
  · rw [if_neg hc] at hs
    refine qr_s hC (n := 9) (pc' := 26) (ls' := [.ref 0, .int x1, .int x2]) (st' := [.int (3 + x1), .ref 4, .int 1, .long (-1), .long (Int32.toInt64 x2)]) (h' := mw (qm_u φ 0 0 0)) rfl ?_
    obtain ⟨hq, hs⟩ := qg_s hs
    refine qr_ia (v := φ 4 ((3 + x1).toNatClampNeg)) hC rfl rfl hq rfl ?_
    refine qr_s hC (n := 4) (pc' := 31) (ls' := [.ref 0, .int x1, .int x2]) (st' := [.long (Int32.toInt64 ((1 <<< ((φ 4 ((3 + x1).toNatClampNeg)) &&& 31)) - 1)), .long (-1), .long (Int32.toInt64 x2)]) (h' := mw (qm_u φ 0 0 0)) rfl ?_
    obtain ⟨y2, hy, hs⟩ := qb1_s hs
    refine qr_c (j := 31) (as := [.long (Int32.toInt64 x2), .long (-1), .long (Int32.toInt64 ((1 <<< ((φ 4 ((3 + x1).toNatClampNeg)) &&& 31)) - 1))]) (rest := []) (v := some (.int y2)) (h1 := mw (qm_u φ 0 0 0)) hC rfl rfl qC_31 rfl rfl (mo_within_n F d (qm_u φ 0 0 0) (Int32.toInt64 x2) (-1) (Int32.toInt64 ((1 <<< ((φ 4 ((3 + x1).toNatClampNeg)) &&& 31)) - 1)) _ (by omega) hy) ?_
    show qm_Rn (d + 1) 124 34 [.ref 0, .int x1, .int x2] [.int y2] (mw (qm_u φ 0 0 0)) _
    refine qr_eq1 (tgt := 47) hC rfl (by decide) rfl (fun hc => ?_) (fun hc => ?_)
    · rw [if_pos hc] at hs
      refine qr_s hC (n := 1) (pc' := 48) (ls' := [.ref 0, .int x1, .int x2]) (st' := [.int 0]) (h' := mw (qm_u φ 0 0 0)) rfl ?_
      have hs := Option.some.inj hs
      subst hs
      exact qr_r hC rfl rfl
    · rw [if_neg hc] at hs
      refine qr_s hC (n := 3) (pc' := 42) (ls' := [.ref 0, .int x1, .int x2]) (st' := [.int x1, .ref 15]) (h' := mw (qm_u φ 0 0 0)) rfl ?_
      obtain ⟨hq, hs⟩ := qg_s hs
      refine qr_ia (v := φ 15 x1.toNatClampNeg) hC rfl rfl hq rfl ?_
      refine qr_s hC (n := 1) (pc' := 44) (ls' := [.ref 0, .int x1, .int x2]) (st' := [.int x2, .int (φ 15 x1.toNatClampNeg)]) (h' := mw (qm_u φ 0 0 0)) rfl ?_
      refine qr_ne2 (tgt := 49) hC rfl (by decide) rfl (fun hc => ?_) (fun hc => ?_)
      · rw [if_pos hc] at hs
        refine qr_s hC (n := 4) (pc' := 55) (ls' := [.ref 0, .int x1, .int x2]) (st' := [.int x2, .int x1, .ref 15]) (h' := mw (qm_u φ 0 0 0)) rfl ?_
        obtain ⟨hq, hs⟩ := qg_s hs
        refine qr_is (h' := mw (qm_u (qm_u φ 0 0 0) 15 x1.toNatClampNeg x2)) hC rfl rfl hq rfl ?_
        refine qr_s hC (n := 1) (pc' := 57) (ls' := [.ref 0, .int x1, .int x2]) (st' := [.ref 0]) (h' := mw (qm_u (qm_u φ 0 0 0) 15 x1.toNatClampNeg x2)) rfl ?_
        obtain ⟨φ1, hy, hs⟩ := qb1_s hs
        refine qr_c (j := 123) (as := [.ref 0]) (rest := []) (v := none) (h1 := mw φ1) hC rfl rfl qC_123 rfl rfl (mo_seeks_n F d (qm_u (qm_u φ 0 0 0) 15 x1.toNatClampNeg x2) _ (by omega) hy) ?_
        show qm_Rn (d + 1) 124 60 [.ref 0, .int x1, .int x2] [] (mw φ1) _
        refine qr_s hC (n := 1) (pc' := 61) (ls' := [.ref 0, .int x1, .int x2]) (st' := [.int 1]) (h' := mw φ1) rfl ?_
        have hs := Option.some.inj hs
        subst hs
        exact qr_r hC rfl rfl
      · rw [if_neg hc] at hs
        refine qr_s hC (n := 1) (pc' := 48) (ls' := [.ref 0, .int x1, .int x2]) (st' := [.int 0]) (h' := mw (qm_u φ 0 0 0)) rfl ?_
        have hs := Option.some.inj hs
        subst hs
        exact qr_r hC rfl rfl
/-- SketchFillerModel.isKept(I)Z -/
def mo_isKept_L2 (F : Nat) : Nat → qm_F → Int32 → Int32 → Option Int32
  | 0, _, _, _ => none
  | n + 1, φ, x1, x2 =>
    if (φ 0 45) ≤ x2 then
      some 0
    else
      qg (qm_in x2 40) <|
      if ¬ (φ 20 x2.toNatClampNeg) = x1 then
        mo_isKept_L2 F n φ x1 (x2 + 1)
      else
        some 1
def mo_isKept (F : Nat) (φ : qm_F) (x1 : Int32) : Option Int32 :=
  mo_isKept_L2 F F φ x1 0
set_option maxRecDepth 100000 in
theorem mo_isKept_L2_n (F d : Nat) (hd : 0 ≤ d) : ∀ (n : Nat) (φ : qm_F) (x1 : Int32) (x2 : Int32) (r : Int32), mo_isKept_L2 F n φ x1 x2 = some r → qm_Rn d 125 2 [.ref 0, .int x1, .int x2] [] (mw φ) (some (.int r), mw φ) := by
  have hC := qC_125
  intro n
  induction n with
  | zero => intro φ x1 x2 r hs; simp [mo_isKept_L2] at hs
  | succ n ih =>
    intro φ x1 x2 r hs
    rw [mo_isKept_L2] at hs
    refine qr_s hC (n := 3) (pc' := 7) (ls' := [.ref 0, .int x1, .int x2]) (st' := [.int (φ 0 45), .int x2]) (h' := mw φ) rfl ?_
    refine qr_ge2 (tgt := 28) hC rfl (by decide) rfl (fun hc => ?_) (fun hc => ?_)
    · rw [if_pos hc] at hs
      refine qr_s hC (n := 1) (pc' := 29) (ls' := [.ref 0, .int x1, .int x2]) (st' := [.int 0]) (h' := mw φ) rfl ?_
      have hs := Option.some.inj hs
      subst hs
      exact qr_r hC rfl rfl
    · rw [if_neg hc] at hs
      refine qr_s hC (n := 3) (pc' := 15) (ls' := [.ref 0, .int x1, .int x2]) (st' := [.int x2, .ref 20]) (h' := mw φ) rfl ?_
      obtain ⟨hq, hs⟩ := qg_s hs
      refine qr_ia (v := φ 20 x2.toNatClampNeg) hC rfl rfl hq rfl ?_
      refine qr_s hC (n := 1) (pc' := 17) (ls' := [.ref 0, .int x1, .int x2]) (st' := [.int x1, .int (φ 20 x2.toNatClampNeg)]) (h' := mw φ) rfl ?_
      refine qr_ne2 (tgt := 22) hC rfl (by decide) rfl (fun hc => ?_) (fun hc => ?_)
      · rw [if_pos hc] at hs
        refine qr_s hC (n := 2) (pc' := 2) (ls' := [.ref 0, .int x1, .int (x2 + 1)]) (st' := []) (h' := mw φ) rfl ?_
        exact ih φ x1 (x2 + 1) _ hs
      · rw [if_neg hc] at hs
        refine qr_s hC (n := 1) (pc' := 21) (ls' := [.ref 0, .int x1, .int x2]) (st' := [.int 1]) (h' := mw φ) rfl ?_
        have hs := Option.some.inj hs
        subst hs
        exact qr_r hC rfl rfl
set_option maxRecDepth 100000 in
theorem mo_isKept_n (F d : Nat) (φ : qm_F) (x1 : Int32) (r : Int32) (hd : 0 ≤ d) (hs : mo_isKept F φ x1 = some r) : qm_Rn d 125 0 [.ref 0, .int x1, .retAddr 0] [] (mw φ) (some (.int r), mw φ) := by
  have hC := qC_125
  unfold mo_isKept at hs
  refine qr_s hC (n := 2) (pc' := 2) (ls' := [.ref 0, .int x1, .int 0]) (st' := []) (h' := mw φ) rfl ?_
  exact mo_isKept_L2_n F d (by omega) F φ x1 0 _ hs
/-- SketchFillerModel.keep(I)I -/
def mo_keep (F : Nat) (φ : qm_F) (x1 : Int32) : Option (Int32 × qm_F) :=
  qb1 (mo_isInput F (qm_u φ 0 0 0) x1) fun y1 =>
  if y1 = 0 then
    some ((-1), (qm_u φ 0 0 0))
  else
    qb1 (mo_isKept F (qm_u φ 0 0 0) x1) fun y2 =>
    if ¬ y2 = 0 then
      some ((-1), (qm_u φ 0 0 0))
    else
      if ¬ (φ 0 45) = 40 then
        qg (qm_in (φ 0 45) 40) <|
        qb1 (mo_seeks F (qm_u (qm_u (qm_u φ 0 0 0) 20 ((φ 0 45).toNatClampNeg) x1) 0 45 ((φ 0 45) + 1))) fun φ1 =>
        some (φ1 0 45, φ1)
      else
        some ((-1), (qm_u φ 0 0 0))
set_option maxRecDepth 100000 in
theorem mo_keep_n (F d : Nat) (φ : qm_F) (x1 : Int32) (r : (Int32 × qm_F)) (hd : 2 ≤ d) (hs : mo_keep F φ x1 = some r) : qm_Rn d 126 0 [.ref 0, .int x1] [] (mw φ) (some (.int r.1), mw r.2) := by
  obtain ⟨d, rfl⟩ : ∃ e, d = e + 1 := ⟨d - 1, by omega⟩
  have hC := qC_126
  unfold mo_keep at hs
  refine qr_s hC (n := 5) (pc' := 7) (ls' := [.ref 0, .int x1]) (st' := [.int x1, .ref 0]) (h' := mw (qm_u φ 0 0 0)) rfl ?_
  obtain ⟨y1, hy, hs⟩ := qb1_s hs
  refine qr_c (j := 81) (as := [.ref 0, .int x1]) (rest := []) (v := some (.int y1)) (h1 := mw (qm_u φ 0 0 0)) hC rfl rfl qC_81 rfl rfl (mo_isInput_n F d (qm_u φ 0 0 0) x1 _ (by omega) hy) ?_
  show qm_Rn (d + 1) 126 10 [.ref 0, .int x1] [.int y1] (mw (qm_u φ 0 0 0)) _
  refine qr_eq1 (tgt := 30) hC rfl (by decide) rfl (fun hc => ?_) (fun hc => ?_)
  · rw [if_pos hc] at hs
    refine qr_s hC (n := 1) (pc' := 31) (ls' := [.ref 0, .int x1]) (st' := [.int (-1)]) (h' := mw (qm_u φ 0 0 0)) rfl ?_
    have hs := Option.some.inj hs
    subst hs
    exact qr_r hC rfl rfl
  · rw [if_neg hc] at hs
    refine qr_s hC (n := 2) (pc' := 15) (ls' := [.ref 0, .int x1]) (st' := [.int x1, .ref 0]) (h' := mw (qm_u φ 0 0 0)) rfl ?_
    obtain ⟨y2, hy, hs⟩ := qb1_s hs
    refine qr_c (j := 125) (as := [.ref 0, .int x1]) (rest := []) (v := some (.int y2)) (h1 := mw (qm_u φ 0 0 0)) hC rfl rfl qC_125 rfl rfl (mo_isKept_n F d (qm_u φ 0 0 0) x1 _ (by omega) hy) ?_
    show qm_Rn (d + 1) 126 18 [.ref 0, .int x1] [.int y2] (mw (qm_u φ 0 0 0)) _
    refine qr_ne1 (tgt := 30) hC rfl (by decide) rfl (fun hc => ?_) (fun hc => ?_)
    · rw [if_pos hc] at hs
      refine qr_s hC (n := 1) (pc' := 31) (ls' := [.ref 0, .int x1]) (st' := [.int (-1)]) (h' := mw (qm_u φ 0 0 0)) rfl ?_
      have hs := Option.some.inj hs
      subst hs
      exact qr_r hC rfl rfl
    · rw [if_neg hc] at hs
      refine qr_s hC (n := 3) (pc' := 27) (ls' := [.ref 0, .int x1]) (st' := [.int 40, .int (φ 0 45)]) (h' := mw (qm_u φ 0 0 0)) rfl ?_
      refine qr_ne2 (tgt := 32) hC rfl (by decide) rfl (fun hc => ?_) (fun hc => ?_)
      · rw [if_pos hc] at hs
        refine qr_s hC (n := 5) (pc' := 41) (ls' := [.ref 0, .int x1]) (st' := [.int x1, .int (φ 0 45), .ref 20]) (h' := mw (qm_u φ 0 0 0)) rfl ?_
        obtain ⟨hq, hs⟩ := qg_s hs
        refine qr_is (h' := mw (qm_u (qm_u φ 0 0 0) 20 ((φ 0 45).toNatClampNeg) x1)) hC rfl rfl hq rfl ?_
        refine qr_s hC (n := 7) (pc' := 53) (ls' := [.ref 0, .int x1]) (st' := [.ref 0]) (h' := mw (qm_u (qm_u (qm_u φ 0 0 0) 20 ((φ 0 45).toNatClampNeg) x1) 0 45 ((φ 0 45) + 1))) rfl ?_
        obtain ⟨φ1, hy, hs⟩ := qb1_s hs
        refine qr_c (j := 123) (as := [.ref 0]) (rest := []) (v := none) (h1 := mw φ1) hC rfl rfl qC_123 rfl rfl (mo_seeks_n F d (qm_u (qm_u (qm_u φ 0 0 0) 20 ((φ 0 45).toNatClampNeg) x1) 0 45 ((φ 0 45) + 1)) _ (by omega) hy) ?_
        show qm_Rn (d + 1) 126 56 [.ref 0, .int x1] [] (mw φ1) _
        refine qr_s hC (n := 2) (pc' := 60) (ls' := [.ref 0, .int x1]) (st' := [.int (φ1 0 45)]) (h' := mw φ1) rfl ?_
        have hs := Option.some.inj hs
        subst hs
        exact qr_r hC rfl rfl
      · rw [if_neg hc] at hs
        refine qr_s hC (n := 1) (pc' := 31) (ls' := [.ref 0, .int x1]) (st' := [.int (-1)]) (h' := mw (qm_u φ 0 0 0)) rfl ?_
        have hs := Option.some.inj hs
        subst hs
        exact qr_r hC rfl rfl
/-- SketchFillerModel.drop(I)I -/
def mo_drop_L49 (F : Nat) : Nat → qm_F → Int32 → Int32 → Option (Int32 × qm_F)
  | 0, _, _, _ => none
  | n + 1, φ, x2, x3 =>
    if (φ 0 45) ≤ x3 then
      qb1 (mo_seeks F φ) fun φ1 =>
      some (x2, φ1)
    else
      qg (qm_in (x3 + 1) 40) <|
      qg (qm_in x3 40) <|
      mo_drop_L49 F n (qm_u φ 20 x3.toNatClampNeg (φ 20 ((x3 + 1).toNatClampNeg))) x2 (x3 + 1)
def mo_drop (F : Nat) (φ : qm_F) (x1 : Int32) : Option (Int32 × qm_F) :=
  if (φ 0 12) = 0 then
    some ((-1), (qm_u φ 0 0 0))
  else
    qb1 (mo_within F (qm_u φ 0 0 0) (Int32.toInt64 x1) 0 (Int32.toInt64 ((φ 0 45) - 1))) fun y1 =>
    if ¬ y1 = 0 then
      qg (qm_in x1 40) <|
      mo_drop_L49 F F (qm_u (qm_u φ 0 0 0) 0 45 ((φ 0 45) - 1)) (φ 20 x1.toNatClampNeg) x1
    else
      some ((-1), (qm_u φ 0 0 0))
set_option maxRecDepth 100000 in
theorem mo_drop_L49_n (F d : Nat) (hd : 1 ≤ d) : ∀ (n : Nat) (φ : qm_F) (x2 : Int32) (x3 : Int32) (r : (Int32 × qm_F)), mo_drop_L49 F n φ x2 x3 = some r → qm_Rn d 127 49 [.ref 0, .retAddr 0, .int x2, .int x3] [] (mw φ) (some (.int r.1), mw r.2) := by
  obtain ⟨d, rfl⟩ : ∃ e, d = e + 1 := ⟨d - 1, by omega⟩
  have hC := qC_127
  intro n
  induction n with
  | zero => intro φ x2 x3 r hs; simp [mo_drop_L49] at hs
  | succ n ih =>
    intro φ x2 x3 r hs
    rw [mo_drop_L49] at hs
    refine qr_s hC (n := 3) (pc' := 54) (ls' := [.ref 0, .retAddr 0, .int x2, .int x3]) (st' := [.int (φ 0 45), .int x3]) (h' := mw φ) rfl ?_
    refine qr_ge2 (tgt := 77) hC rfl (by decide) rfl (fun hc => ?_) (fun hc => ?_)
    · rw [if_pos hc] at hs
      refine qr_s hC (n := 1) (pc' := 78) (ls' := [.ref 0, .retAddr 0, .int x2, .int x3]) (st' := [.ref 0]) (h' := mw φ) rfl ?_
      obtain ⟨φ1, hy, hs⟩ := qb1_s hs
      refine qr_c (j := 123) (as := [.ref 0]) (rest := []) (v := none) (h1 := mw φ1) hC rfl rfl qC_123 rfl rfl (mo_seeks_n F d φ _ (by omega) hy) ?_
      show qm_Rn (d + 1) 127 81 [.ref 0, .retAddr 0, .int x2, .int x3] [] (mw φ1) _
      refine qr_s hC (n := 1) (pc' := 82) (ls' := [.ref 0, .retAddr 0, .int x2, .int x3]) (st' := [.int x2]) (h' := mw φ1) rfl ?_
      have hs := Option.some.inj hs
      subst hs
      exact qr_r hC rfl rfl
    · rw [if_neg hc] at hs
      refine qr_s hC (n := 8) (pc' := 69) (ls' := [.ref 0, .retAddr 0, .int x2, .int x3]) (st' := [.int (x3 + 1), .ref 20, .int x3, .ref 20]) (h' := mw φ) rfl ?_
      obtain ⟨hq, hs⟩ := qg_s hs
      refine qr_ia (v := φ 20 ((x3 + 1).toNatClampNeg)) hC rfl rfl hq rfl ?_
      obtain ⟨hq, hs⟩ := qg_s hs
      refine qr_is (h' := mw (qm_u φ 20 x3.toNatClampNeg (φ 20 ((x3 + 1).toNatClampNeg)))) hC rfl rfl hq rfl ?_
      refine qr_s hC (n := 2) (pc' := 49) (ls' := [.ref 0, .retAddr 0, .int x2, .int (x3 + 1)]) (st' := []) (h' := mw (qm_u φ 20 x3.toNatClampNeg (φ 20 ((x3 + 1).toNatClampNeg)))) rfl ?_
      exact ih (qm_u φ 20 x3.toNatClampNeg (φ 20 ((x3 + 1).toNatClampNeg))) x2 (x3 + 1) _ hs
set_option maxRecDepth 100000 in
theorem mo_drop_n (F d : Nat) (φ : qm_F) (x1 : Int32) (r : (Int32 × qm_F)) (hd : 1 ≤ d) (hs : mo_drop F φ x1 = some r) : qm_Rn d 127 0 [.ref 0, .int x1, .retAddr 0, .retAddr 0] [] (mw φ) (some (.int r.1), mw r.2) := by
  obtain ⟨d, rfl⟩ : ∃ e, d = e + 1 := ⟨d - 1, by omega⟩
  have hC := qC_127
  unfold mo_drop at hs
  refine qr_s hC (n := 5) (pc' := 9) (ls' := [.ref 0, .int x1, .retAddr 0, .retAddr 0]) (st' := [.int (φ 0 12)]) (h' := mw (qm_u φ 0 0 0)) rfl ?_
  refine qr_eq1 (tgt := 28) hC rfl (by decide) rfl (fun hc => ?_) (fun hc => ?_)
  · rw [if_pos hc] at hs
    refine qr_s hC (n := 1) (pc' := 29) (ls' := [.ref 0, .int x1, .retAddr 0, .retAddr 0]) (st' := [.int (-1)]) (h' := mw (qm_u φ 0 0 0)) rfl ?_
    have hs := Option.some.inj hs
    subst hs
    exact qr_r hC rfl rfl
  · rw [if_neg hc] at hs
    refine qr_s hC (n := 8) (pc' := 22) (ls' := [.ref 0, .int x1, .retAddr 0, .retAddr 0]) (st' := [.long (Int32.toInt64 ((φ 0 45) - 1)), .long 0, .long (Int32.toInt64 x1)]) (h' := mw (qm_u φ 0 0 0)) rfl ?_
    obtain ⟨y1, hy, hs⟩ := qb1_s hs
    refine qr_c (j := 31) (as := [.long (Int32.toInt64 x1), .long 0, .long (Int32.toInt64 ((φ 0 45) - 1))]) (rest := []) (v := some (.int y1)) (h1 := mw (qm_u φ 0 0 0)) hC rfl rfl qC_31 rfl rfl (mo_within_n F d (qm_u φ 0 0 0) (Int32.toInt64 x1) 0 (Int32.toInt64 ((φ 0 45) - 1)) _ (by omega) hy) ?_
    show qm_Rn (d + 1) 127 25 [.ref 0, .int x1, .retAddr 0, .retAddr 0] [.int y1] (mw (qm_u φ 0 0 0)) _
    refine qr_ne1 (tgt := 30) hC rfl (by decide) rfl (fun hc => ?_) (fun hc => ?_)
    · rw [if_pos hc] at hs
      refine qr_s hC (n := 3) (pc' := 35) (ls' := [.ref 0, .int x1, .retAddr 0, .retAddr 0]) (st' := [.int x1, .ref 20]) (h' := mw (qm_u φ 0 0 0)) rfl ?_
      obtain ⟨hq, hs⟩ := qg_s hs
      refine qr_ia (v := φ 20 x1.toNatClampNeg) hC rfl rfl hq rfl ?_
      refine qr_s hC (n := 9) (pc' := 49) (ls' := [.ref 0, .int x1, .int (φ 20 x1.toNatClampNeg), .int x1]) (st' := []) (h' := mw (qm_u (qm_u φ 0 0 0) 0 45 ((φ 0 45) - 1))) rfl ?_
      exact qr_w (a := [.ref 0, .retAddr 0, .int (φ 20 x1.toNatClampNeg), .int x1]) ⟨Or.inr rfl, Or.inl rfl, Or.inr rfl, Or.inr rfl, trivial⟩ (mo_drop_L49_n F (d + 1) (by omega) F (qm_u (qm_u φ 0 0 0) 0 45 ((φ 0 45) - 1)) (φ 20 x1.toNatClampNeg) x1 _ hs)
    · rw [if_neg hc] at hs
      refine qr_s hC (n := 1) (pc' := 29) (ls' := [.ref 0, .int x1, .retAddr 0, .retAddr 0]) (st' := [.int (-1)]) (h' := mw (qm_u φ 0 0 0)) rfl ?_
      have hs := Option.some.inj hs
      subst hs
      exact qr_r hC rfl rfl
/-- SketchFillerModel.set(II)I -/
def mo_set_L61 (F : Nat) (φ : qm_F) (x1 : Int32) (x2 : Int32) (s0 : Int32) : Option (Int32 × qm_F) :=
  if ¬ s0 = x2 then
    if ¬ x1 = 1 then
      qb1 (mo_seeks F (qm_u (qm_u φ 0 43 x2) 0 40 0)) fun φ1 =>
      some (s0, φ1)
    else
      some (s0, (qm_u φ 0 44 x2))
  else
    some (s0, φ)
def mo_set_L38 (F : Nat) (φ : qm_F) (x1 : Int32) (x2 : Int32) (s0 : Int64) (s1 : Int64) (s2 : Int64) : Option (Int32 × qm_F) :=
  qb1 (mo_within F φ s2 s1 s0) fun y1 =>
  if ¬ y1 = 0 then
    if ¬ x1 = 0 then
      mo_set_L61 F φ x1 x2 (φ 0 44)
    else
      mo_set_L61 F φ x1 x2 (φ 0 43)
  else
    some ((-1), φ)
def mo_set (F : Nat) (φ : qm_F) (x1 : Int32) (x2 : Int32) : Option (Int32 × qm_F) :=
  if (φ 0 12) = 0 then
    some ((-1), (qm_u φ 0 0 0))
  else
    qb1 (mo_within F (qm_u φ 0 0 0) (Int32.toInt64 x1) 0 1) fun y1 =>
    if y1 = 0 then
      some ((-1), (qm_u φ 0 0 0))
    else
      if ¬ x1 = 0 then
        mo_set_L38 F (qm_u φ 0 0 0) x1 x2 2 0 (Int32.toInt64 x2)
      else
        mo_set_L38 F (qm_u φ 0 0 0) x1 x2 9 0 (Int32.toInt64 x2)
set_option maxRecDepth 100000 in
theorem mo_set_L61_n (F d : Nat) (hd : 1 ≤ d) (φ : qm_F) (x1 : Int32) (x2 : Int32) (s0 : Int32) (r : (Int32 × qm_F)) (hs : mo_set_L61 F φ x1 x2 s0 = some r) : qm_Rn d 128 61 [.ref 0, .int x1, .int x2, .retAddr 0] [.int s0] (mw φ) (some (.int r.1), mw r.2) := by
  obtain ⟨d, rfl⟩ : ∃ e, d = e + 1 := ⟨d - 1, by omega⟩
  have hC := qC_128
  unfold mo_set_L61 at hs
  refine qr_s hC (n := 3) (pc' := 64) (ls' := [.ref 0, .int x1, .int x2, .int s0]) (st' := [.int x2, .int s0]) (h' := mw φ) rfl ?_
  refine qr_ne2 (tgt := 69) hC rfl (by decide) rfl (fun hc => ?_) (fun hc => ?_)
  · rw [if_pos hc] at hs
    refine qr_s hC (n := 2) (pc' := 71) (ls' := [.ref 0, .int x1, .int x2, .int s0]) (st' := [.int 1, .int x1]) (h' := mw φ) rfl ?_
    refine qr_ne2 (tgt := 81) hC rfl (by decide) rfl (fun hc => ?_) (fun hc => ?_)
    · rw [if_pos hc] at hs
      refine qr_s hC (n := 7) (pc' := 92) (ls' := [.ref 0, .int x1, .int x2, .int s0]) (st' := [.ref 0]) (h' := mw (qm_u (qm_u φ 0 43 x2) 0 40 0)) rfl ?_
      obtain ⟨φ1, hy, hs⟩ := qb1_s hs
      refine qr_c (j := 123) (as := [.ref 0]) (rest := []) (v := none) (h1 := mw φ1) hC rfl rfl qC_123 rfl rfl (mo_seeks_n F d (qm_u (qm_u φ 0 43 x2) 0 40 0) _ (by omega) hy) ?_
      show qm_Rn (d + 1) 128 95 [.ref 0, .int x1, .int x2, .int s0] [] (mw φ1) _
      refine qr_s hC (n := 1) (pc' := 96) (ls' := [.ref 0, .int x1, .int x2, .int s0]) (st' := [.int s0]) (h' := mw φ1) rfl ?_
      have hs := Option.some.inj hs
      subst hs
      exact qr_r hC rfl rfl
    · rw [if_neg hc] at hs
      refine qr_s hC (n := 4) (pc' := 80) (ls' := [.ref 0, .int x1, .int x2, .int s0]) (st' := [.int s0]) (h' := mw (qm_u φ 0 44 x2)) rfl ?_
      have hs := Option.some.inj hs
      subst hs
      exact qr_r hC rfl rfl
  · rw [if_neg hc] at hs
    refine qr_s hC (n := 1) (pc' := 68) (ls' := [.ref 0, .int x1, .int x2, .int s0]) (st' := [.int s0]) (h' := mw φ) rfl ?_
    have hs := Option.some.inj hs
    subst hs
    exact qr_r hC rfl rfl
set_option maxRecDepth 100000 in
theorem mo_set_L38_n (F d : Nat) (hd : 1 ≤ d) (φ : qm_F) (x1 : Int32) (x2 : Int32) (s0 : Int64) (s1 : Int64) (s2 : Int64) (r : (Int32 × qm_F)) (hs : mo_set_L38 F φ x1 x2 s0 s1 s2 = some r) : qm_Rn d 128 38 [.ref 0, .int x1, .int x2, .retAddr 0] [.long s0, .long s1, .long s2] (mw φ) (some (.int r.1), mw r.2) := by
  obtain ⟨d, rfl⟩ : ∃ e, d = e + 1 := ⟨d - 1, by omega⟩
  have hC := qC_128
  unfold mo_set_L38 at hs
  obtain ⟨y1, hy, hs⟩ := qb1_s hs
  refine qr_c (j := 31) (as := [.long s2, .long s1, .long s0]) (rest := []) (v := some (.int y1)) (h1 := mw φ) hC rfl rfl qC_31 rfl rfl (mo_within_n F d φ s2 s1 s0 _ (by omega) hy) ?_
  show qm_Rn (d + 1) 128 41 [.ref 0, .int x1, .int x2, .retAddr 0] [.int y1] (mw φ) _
  refine qr_ne1 (tgt := 46) hC rfl (by decide) rfl (fun hc => ?_) (fun hc => ?_)
  · rw [if_pos hc] at hs
    refine qr_s hC (n := 1) (pc' := 47) (ls' := [.ref 0, .int x1, .int x2, .retAddr 0]) (st' := [.int x1]) (h' := mw φ) rfl ?_
    refine qr_ne1 (tgt := 57) hC rfl (by decide) rfl (fun hc => ?_) (fun hc => ?_)
    · rw [if_pos hc] at hs
      refine qr_s hC (n := 2) (pc' := 61) (ls' := [.ref 0, .int x1, .int x2, .retAddr 0]) (st' := [.int (φ 0 44)]) (h' := mw φ) rfl ?_
      exact mo_set_L61_n F (d + 1) (by omega) φ x1 x2 (φ 0 44) _ hs
    · rw [if_neg hc] at hs
      refine qr_s hC (n := 3) (pc' := 61) (ls' := [.ref 0, .int x1, .int x2, .retAddr 0]) (st' := [.int (φ 0 43)]) (h' := mw φ) rfl ?_
      exact mo_set_L61_n F (d + 1) (by omega) φ x1 x2 (φ 0 43) _ hs
  · rw [if_neg hc] at hs
    refine qr_s hC (n := 1) (pc' := 45) (ls' := [.ref 0, .int x1, .int x2, .retAddr 0]) (st' := [.int (-1)]) (h' := mw φ) rfl ?_
    have hs := Option.some.inj hs
    subst hs
    exact qr_r hC rfl rfl
set_option maxRecDepth 100000 in
theorem mo_set_n (F d : Nat) (φ : qm_F) (x1 : Int32) (x2 : Int32) (r : (Int32 × qm_F)) (hd : 1 ≤ d) (hs : mo_set F φ x1 x2 = some r) : qm_Rn d 128 0 [.ref 0, .int x1, .int x2, .retAddr 0] [] (mw φ) (some (.int r.1), mw r.2) := by
  obtain ⟨d, rfl⟩ : ∃ e, d = e + 1 := ⟨d - 1, by omega⟩
  have hC := qC_128
  unfold mo_set at hs
  refine qr_s hC (n := 5) (pc' := 9) (ls' := [.ref 0, .int x1, .int x2, .retAddr 0]) (st' := [.int (φ 0 12)]) (h' := mw (qm_u φ 0 0 0)) rfl ?_
  refine qr_eq1 (tgt := 44) hC rfl (by decide) rfl (fun hc => ?_) (fun hc => ?_)
  · rw [if_pos hc] at hs
    refine qr_s hC (n := 1) (pc' := 45) (ls' := [.ref 0, .int x1, .int x2, .retAddr 0]) (st' := [.int (-1)]) (h' := mw (qm_u φ 0 0 0)) rfl ?_
    have hs := Option.some.inj hs
    subst hs
    exact qr_r hC rfl rfl
  · rw [if_neg hc] at hs
    refine qr_s hC (n := 4) (pc' := 16) (ls' := [.ref 0, .int x1, .int x2, .retAddr 0]) (st' := [.long 1, .long 0, .long (Int32.toInt64 x1)]) (h' := mw (qm_u φ 0 0 0)) rfl ?_
    obtain ⟨y1, hy, hs⟩ := qb1_s hs
    refine qr_c (j := 31) (as := [.long (Int32.toInt64 x1), .long 0, .long 1]) (rest := []) (v := some (.int y1)) (h1 := mw (qm_u φ 0 0 0)) hC rfl rfl qC_31 rfl rfl (mo_within_n F d (qm_u φ 0 0 0) (Int32.toInt64 x1) 0 1 _ (by omega) hy) ?_
    show qm_Rn (d + 1) 128 19 [.ref 0, .int x1, .int x2, .retAddr 0] [.int y1] (mw (qm_u φ 0 0 0)) _
    refine qr_eq1 (tgt := 44) hC rfl (by decide) rfl (fun hc => ?_) (fun hc => ?_)
    · rw [if_pos hc] at hs
      refine qr_s hC (n := 1) (pc' := 45) (ls' := [.ref 0, .int x1, .int x2, .retAddr 0]) (st' := [.int (-1)]) (h' := mw (qm_u φ 0 0 0)) rfl ?_
      have hs := Option.some.inj hs
      subst hs
      exact qr_r hC rfl rfl
    · rw [if_neg hc] at hs
      refine qr_s hC (n := 4) (pc' := 26) (ls' := [.ref 0, .int x1, .int x2, .retAddr 0]) (st' := [.int x1, .long 0, .long (Int32.toInt64 x2)]) (h' := mw (qm_u φ 0 0 0)) rfl ?_
      refine qr_ne1 (tgt := 35) hC rfl (by decide) rfl (fun hc => ?_) (fun hc => ?_)
      · rw [if_pos hc] at hs
        refine qr_s hC (n := 1) (pc' := 38) (ls' := [.ref 0, .int x1, .int x2, .retAddr 0]) (st' := [.long 2, .long 0, .long (Int32.toInt64 x2)]) (h' := mw (qm_u φ 0 0 0)) rfl ?_
        exact mo_set_L38_n F (d + 1) (by omega) (qm_u φ 0 0 0) x1 x2 2 0 (Int32.toInt64 x2) _ hs
      · rw [if_neg hc] at hs
        refine qr_s hC (n := 2) (pc' := 38) (ls' := [.ref 0, .int x1, .int x2, .retAddr 0]) (st' := [.long 9, .long 0, .long (Int32.toInt64 x2)]) (h' := mw (qm_u φ 0 0 0)) rfl ?_
        exact mo_set_L38_n F (d + 1) (by omega) (qm_u φ 0 0 0) x1 x2 9 0 (Int32.toInt64 x2) _ hs
/-- SketchFillerModel.state(I)I -/
def mo_state (F : Nat) (φ : qm_F) (x1 : Int32) : Option (Int32 × qm_F) :=
  if ¬ x1 = 5 then
    if ¬ (φ 0 12) = 0 then
      if x1 = 0 then
        some (φ 0 41, (qm_u φ 0 0 0))
      else
      if x1 = 1 then
        some (φ 0 42, (qm_u φ 0 0 0))
      else
      if x1 = 2 then
        some (φ 0 45, (qm_u φ 0 0 0))
      else
      if x1 = 3 then
        some (φ 0 43, (qm_u φ 0 0 0))
      else
      if x1 = 4 then
        some (φ 0 44, (qm_u φ 0 0 0))
      else
      qb1 (mo_within F (qm_u φ 0 0 0) (Int32.toInt64 x1) 10 (Int32.toInt64 (9 + (φ 0 45)))) fun y1 =>
      if y1 = 0 then
        some ((-1), (qm_u φ 0 0 0))
      else
        qg (qm_in (x1 - 10) 40) <|
        some (φ 20 ((x1 - 10).toNatClampNeg), (qm_u φ 0 0 0))
    else
      some ((-1), (qm_u φ 0 0 0))
  else
    some (φ 0 2, (qm_u φ 0 0 0))
set_option maxRecDepth 100000 in
theorem mo_state_n (F d : Nat) (φ : qm_F) (x1 : Int32) (r : (Int32 × qm_F)) (hd : 1 ≤ d) (hs : mo_state F φ x1 = some r) : qm_Rn d 129 0 [.ref 0, .int x1] [] (mw φ) (some (.int r.1), mw r.2) := by
  obtain ⟨d, rfl⟩ : ∃ e, d = e + 1 := ⟨d - 1, by omega⟩
  have hC := qC_129
  unfold mo_state at hs
  refine qr_s hC (n := 5) (pc' := 7) (ls' := [.ref 0, .int x1]) (st' := [.int 5, .int x1]) (h' := mw (qm_u φ 0 0 0)) rfl ?_
  refine qr_ne2 (tgt := 15) hC rfl (by decide) rfl (fun hc => ?_) (fun hc => ?_)
  · rw [if_pos hc] at hs
    refine qr_s hC (n := 2) (pc' := 19) (ls' := [.ref 0, .int x1]) (st' := [.int (φ 0 12)]) (h' := mw (qm_u φ 0 0 0)) rfl ?_
    refine qr_ne1 (tgt := 24) hC rfl (by decide) rfl (fun hc => ?_) (fun hc => ?_)
    · rw [if_pos hc] at hs
      refine qr_s hC (n := 1) (pc' := 25) (ls' := [.ref 0, .int x1]) (st' := [.int x1]) (h' := mw (qm_u φ 0 0 0)) rfl ?_
      by_cases q0 : x1 = 0
      · rw [if_pos q0] at hs
        refine qr_sw hC (tgt := 60) rfl q0 rfl ?_
        refine qr_s hC (n := 2) (pc' := 64) (ls' := [.ref 0, .int x1]) (st' := [.int (φ 0 41)]) (h' := mw (qm_u φ 0 0 0)) rfl ?_
        have hs := Option.some.inj hs
        subst hs
        exact qr_r hC rfl rfl
      · rw [if_neg q0] at hs
        by_cases q1 : x1 = 1
        · rw [if_pos q1] at hs
          refine qr_sw hC (tgt := 65) rfl q1 rfl ?_
          refine qr_s hC (n := 2) (pc' := 69) (ls' := [.ref 0, .int x1]) (st' := [.int (φ 0 42)]) (h' := mw (qm_u φ 0 0 0)) rfl ?_
          have hs := Option.some.inj hs
          subst hs
          exact qr_r hC rfl rfl
        · rw [if_neg q1] at hs
          by_cases q2 : x1 = 2
          · rw [if_pos q2] at hs
            refine qr_sw hC (tgt := 70) rfl q2 rfl ?_
            refine qr_s hC (n := 2) (pc' := 74) (ls' := [.ref 0, .int x1]) (st' := [.int (φ 0 45)]) (h' := mw (qm_u φ 0 0 0)) rfl ?_
            have hs := Option.some.inj hs
            subst hs
            exact qr_r hC rfl rfl
          · rw [if_neg q2] at hs
            by_cases q3 : x1 = 3
            · rw [if_pos q3] at hs
              refine qr_sw hC (tgt := 75) rfl q3 rfl ?_
              refine qr_s hC (n := 2) (pc' := 79) (ls' := [.ref 0, .int x1]) (st' := [.int (φ 0 43)]) (h' := mw (qm_u φ 0 0 0)) rfl ?_
              have hs := Option.some.inj hs
              subst hs
              exact qr_r hC rfl rfl
            · rw [if_neg q3] at hs
              by_cases q4 : x1 = 4
              · rw [if_pos q4] at hs
                refine qr_sw hC (tgt := 80) rfl q4 rfl ?_
                refine qr_s hC (n := 2) (pc' := 84) (ls' := [.ref 0, .int x1]) (st' := [.int (φ 0 44)]) (h' := mw (qm_u φ 0 0 0)) rfl ?_
                have hs := Option.some.inj hs
                subst hs
                exact qr_r hC rfl rfl
              · rw [if_neg q4] at hs
                have z0 : Int32.toInt x1 ≠ 0 := fun z => q0 (Int32.toInt_inj.mp (z.trans (by decide)))
                have z1 : Int32.toInt x1 ≠ 1 := fun z => q1 (Int32.toInt_inj.mp (z.trans (by decide)))
                have z2 : Int32.toInt x1 ≠ 2 := fun z => q2 (Int32.toInt_inj.mp (z.trans (by decide)))
                have z3 : Int32.toInt x1 ≠ 3 := fun z => q3 (Int32.toInt_inj.mp (z.trans (by decide)))
                have z4 : Int32.toInt x1 ≠ 4 := fun z => q4 (Int32.toInt_inj.mp (z.trans (by decide)))
                refine qr_tD (tgt := 85) hC rfl (by omega) (by decide) rfl ?_
                refine qr_s hC (n := 8) (pc' := 98) (ls' := [.ref 0, .int x1]) (st' := [.long (Int32.toInt64 (9 + (φ 0 45))), .long 10, .long (Int32.toInt64 x1)]) (h' := mw (qm_u φ 0 0 0)) rfl ?_
                obtain ⟨y1, hy, hs⟩ := qb1_s hs
                refine qr_c (j := 31) (as := [.long (Int32.toInt64 x1), .long 10, .long (Int32.toInt64 (9 + (φ 0 45)))]) (rest := []) (v := some (.int y1)) (h1 := mw (qm_u φ 0 0 0)) hC rfl rfl qC_31 rfl rfl (mo_within_n F d (qm_u φ 0 0 0) (Int32.toInt64 x1) 10 (Int32.toInt64 (9 + (φ 0 45))) _ (by omega) hy) ?_
                show qm_Rn (d + 1) 129 101 [.ref 0, .int x1] [.int y1] (mw (qm_u φ 0 0 0)) _
                refine qr_eq1 (tgt := 116) hC rfl (by decide) rfl (fun hc => ?_) (fun hc => ?_)
                · rw [if_pos hc] at hs
                  refine qr_s hC (n := 1) (pc' := 117) (ls' := [.ref 0, .int x1]) (st' := [.int (-1)]) (h' := mw (qm_u φ 0 0 0)) rfl ?_
                  have hs := Option.some.inj hs
                  subst hs
                  exact qr_r hC rfl rfl
                · rw [if_neg hc] at hs
                  refine qr_s hC (n := 5) (pc' := 112) (ls' := [.ref 0, .int x1]) (st' := [.int (x1 - 10), .ref 20]) (h' := mw (qm_u φ 0 0 0)) rfl ?_
                  obtain ⟨hq, hs⟩ := qg_s hs
                  refine qr_ia (v := φ 20 ((x1 - 10).toNatClampNeg)) hC rfl rfl hq rfl ?_
                  refine qr_s hC (n := 1) (pc' := 117) (ls' := [.ref 0, .int x1]) (st' := [.int (φ 20 ((x1 - 10).toNatClampNeg))]) (h' := mw (qm_u φ 0 0 0)) rfl ?_
                  have hs := Option.some.inj hs
                  subst hs
                  exact qr_r hC rfl rfl
    · rw [if_neg hc] at hs
      refine qr_s hC (n := 1) (pc' := 23) (ls' := [.ref 0, .int x1]) (st' := [.int (-1)]) (h' := mw (qm_u φ 0 0 0)) rfl ?_
      have hs := Option.some.inj hs
      subst hs
      exact qr_r hC rfl rfl
  · rw [if_neg hc] at hs
    refine qr_s hC (n := 2) (pc' := 14) (ls' := [.ref 0, .int x1]) (st' := [.int (φ 0 2)]) (h' := mw (qm_u φ 0 0 0)) rfl ?_
    have hs := Option.some.inj hs
    subst hs
    exact qr_r hC rfl rfl
/-- SketchFillerModel.many(I)I -/
def mo_many (F : Nat) (φ : qm_F) (x1 : Int32) : Option (Int32 × qm_F) :=
  if (φ 0 12) = 0 then
    some ((-1), (qm_u φ 0 0 0))
  else
    qb1 (mo_within F (qm_u φ 0 0 0) (Int32.toInt64 x1) 0 5) fun y1 =>
    if ¬ y1 = 0 then
      if 3 ≤ x1 then
        qb2 (mo_firstOf F (qm_u φ 0 0 0) (x1 - 3)) fun y2 φ1 =>
        some (y2, φ1)
      else
        qb2 (mo_manyOf F (qm_u φ 0 0 0) x1) fun y3 φ2 =>
        some (y3, φ2)
    else
      some ((-1), (qm_u φ 0 0 0))
set_option maxRecDepth 100000 in
theorem mo_many_n (F d : Nat) (φ : qm_F) (x1 : Int32) (r : (Int32 × qm_F)) (hd : 51 ≤ d) (hs : mo_many F φ x1 = some r) : qm_Rn d 130 0 [.ref 0, .int x1] [] (mw φ) (some (.int r.1), mw r.2) := by
  obtain ⟨d, rfl⟩ : ∃ e, d = e + 1 := ⟨d - 1, by omega⟩
  have hC := qC_130
  unfold mo_many at hs
  refine qr_s hC (n := 5) (pc' := 9) (ls' := [.ref 0, .int x1]) (st' := [.int (φ 0 12)]) (h' := mw (qm_u φ 0 0 0)) rfl ?_
  refine qr_eq1 (tgt := 24) hC rfl (by decide) rfl (fun hc => ?_) (fun hc => ?_)
  · rw [if_pos hc] at hs
    refine qr_s hC (n := 1) (pc' := 25) (ls' := [.ref 0, .int x1]) (st' := [.int (-1)]) (h' := mw (qm_u φ 0 0 0)) rfl ?_
    have hs := Option.some.inj hs
    subst hs
    exact qr_r hC rfl rfl
  · rw [if_neg hc] at hs
    refine qr_s hC (n := 4) (pc' := 18) (ls' := [.ref 0, .int x1]) (st' := [.long 5, .long 0, .long (Int32.toInt64 x1)]) (h' := mw (qm_u φ 0 0 0)) rfl ?_
    obtain ⟨y1, hy, hs⟩ := qb1_s hs
    refine qr_c (j := 31) (as := [.long (Int32.toInt64 x1), .long 0, .long 5]) (rest := []) (v := some (.int y1)) (h1 := mw (qm_u φ 0 0 0)) hC rfl rfl qC_31 rfl rfl (mo_within_n F d (qm_u φ 0 0 0) (Int32.toInt64 x1) 0 5 _ (by omega) hy) ?_
    show qm_Rn (d + 1) 130 21 [.ref 0, .int x1] [.int y1] (mw (qm_u φ 0 0 0)) _
    refine qr_ne1 (tgt := 26) hC rfl (by decide) rfl (fun hc => ?_) (fun hc => ?_)
    · rw [if_pos hc] at hs
      refine qr_s hC (n := 2) (pc' := 28) (ls' := [.ref 0, .int x1]) (st' := [.int 3, .int x1]) (h' := mw (qm_u φ 0 0 0)) rfl ?_
      refine qr_ge2 (tgt := 39) hC rfl (by decide) rfl (fun hc => ?_) (fun hc => ?_)
      · rw [if_pos hc] at hs
        refine qr_s hC (n := 4) (pc' := 43) (ls' := [.ref 0, .int x1]) (st' := [.int (x1 - 3), .ref 0]) (h' := mw (qm_u φ 0 0 0)) rfl ?_
        obtain ⟨y2, φ1, hy, hs⟩ := qb2_s hs
        refine qr_c (j := 114) (as := [.ref 0, .int (x1 - 3)]) (rest := []) (v := some (.int y2)) (h1 := mw φ1) hC rfl rfl qC_114 rfl rfl (mo_firstOf_n F d (qm_u φ 0 0 0) (x1 - 3) _ (by omega) hy) ?_
        show qm_Rn (d + 1) 130 46 [.ref 0, .int x1] [.int y2] (mw φ1) _
        have hs := Option.some.inj hs
        subst hs
        exact qr_r hC rfl rfl
      · rw [if_neg hc] at hs
        refine qr_s hC (n := 2) (pc' := 33) (ls' := [.ref 0, .int x1]) (st' := [.int x1, .ref 0]) (h' := mw (qm_u φ 0 0 0)) rfl ?_
        obtain ⟨y3, φ2, hy, hs⟩ := qb2_s hs
        refine qr_c (j := 115) (as := [.ref 0, .int x1]) (rest := []) (v := some (.int y3)) (h1 := mw φ2) hC rfl rfl qC_115 rfl rfl (mo_manyOf_n F d (qm_u φ 0 0 0) x1 _ (by omega) hy) ?_
        show qm_Rn (d + 1) 130 36 [.ref 0, .int x1] [.int y3] (mw φ2) _
        refine qr_s hC (n := 1) (pc' := 46) (ls' := [.ref 0, .int x1]) (st' := [.int y3]) (h' := mw φ2) rfl ?_
        have hs := Option.some.inj hs
        subst hs
        exact qr_r hC rfl rfl
    · rw [if_neg hc] at hs
      refine qr_s hC (n := 1) (pc' := 25) (ls' := [.ref 0, .int x1]) (st' := [.int (-1)]) (h' := mw (qm_u φ 0 0 0)) rfl ?_
      have hs := Option.some.inj hs
      subst hs
      exact qr_r hC rfl rfl
/-- SketchFillerModel.by(II)I -/
def mo_by_L32 (F : Nat) : Nat → qm_F → Int32 → Int32 → Int32 → Int32 → Option (Int32 × qm_F)
  | 0, _, _, _, _, _ => none
  | n + 1, φ, x1, x2, x3, x4 =>
    qb1 (mo_inputs F φ) fun y1 =>
    if y1 ≤ x4 then
      some (x3, φ)
    else
      qb2 (mo_verdictOf F φ x1 x4) fun y2 φ1 =>
      if ¬ y2 = x2 then
        mo_by_L32 F n φ1 x1 x2 (x3 + 0) (x4 + 1)
      else
        mo_by_L32 F n φ1 x1 x2 (x3 + 1) (x4 + 1)
def mo_by (F : Nat) (φ : qm_F) (x1 : Int32) (x2 : Int32) : Option (Int32 × qm_F) :=
  qb1 (mo_isGuess F (qm_u φ 0 0 0) x1) fun y1 =>
  if y1 = 0 then
    some ((-1), (qm_u φ 0 0 0))
  else
    qb1 (mo_within F (qm_u φ 0 0 0) (Int32.toInt64 x2) 0 5) fun y2 =>
    if ¬ y2 = 0 then
      mo_by_L32 F F (qm_u φ 0 0 0) x1 x2 0 0
    else
      some ((-1), (qm_u φ 0 0 0))
set_option maxRecDepth 100000 in
theorem mo_by_L32_n (F d : Nat) (hd : 48 ≤ d) : ∀ (n : Nat) (φ : qm_F) (x1 : Int32) (x2 : Int32) (x3 : Int32) (x4 : Int32) (r : (Int32 × qm_F)), mo_by_L32 F n φ x1 x2 x3 x4 = some r → qm_Rn d 131 32 [.ref 0, .int x1, .int x2, .int x3, .int x4] [] (mw φ) (some (.int r.1), mw r.2) := by
  obtain ⟨d, rfl⟩ : ∃ e, d = e + 1 := ⟨d - 1, by omega⟩
  have hC := qC_131
  intro n
  induction n with
  | zero => intro φ x1 x2 x3 x4 r hs; simp [mo_by_L32] at hs
  | succ n ih =>
    intro φ x1 x2 x3 x4 r hs
    rw [mo_by_L32] at hs
    refine qr_s hC (n := 2) (pc' := 35) (ls' := [.ref 0, .int x1, .int x2, .int x3, .int x4]) (st' := [.ref 0, .int x4]) (h' := mw φ) rfl ?_
    obtain ⟨y1, hy, hs⟩ := qb1_s hs
    refine qr_c (j := 79) (as := [.ref 0]) (rest := [.int x4]) (v := some (.int y1)) (h1 := mw φ) hC rfl rfl qC_79 rfl rfl (mo_inputs_n F d φ _ (by omega) hy) ?_
    show qm_Rn (d + 1) 131 38 [.ref 0, .int x1, .int x2, .int x3, .int x4] [.int y1, .int x4] (mw φ) _
    refine qr_ge2 (tgt := 66) hC rfl (by decide) rfl (fun hc => ?_) (fun hc => ?_)
    · rw [if_pos hc] at hs
      refine qr_s hC (n := 1) (pc' := 67) (ls' := [.ref 0, .int x1, .int x2, .int x3, .int x4]) (st' := [.int x3]) (h' := mw φ) rfl ?_
      have hs := Option.some.inj hs
      subst hs
      exact qr_r hC rfl rfl
    · rw [if_neg hc] at hs
      refine qr_s hC (n := 4) (pc' := 46) (ls' := [.ref 0, .int x1, .int x2, .int x3, .int x4]) (st' := [.int x4, .int x1, .ref 0, .int x3]) (h' := mw φ) rfl ?_
      obtain ⟨y2, φ1, hy, hs⟩ := qb2_s hs
      refine qr_c (j := 108) (as := [.ref 0, .int x1, .int x4]) (rest := [.int x3]) (v := some (.int y2)) (h1 := mw φ1) hC rfl rfl qC_108 rfl rfl (mo_verdictOf_n F d φ x1 x4 _ (by omega) hy) ?_
      show qm_Rn (d + 1) 131 49 [.ref 0, .int x1, .int x2, .int x3, .int x4] [.int y2, .int x3] (mw φ1) _
      refine qr_s hC (n := 1) (pc' := 50) (ls' := [.ref 0, .int x1, .int x2, .int x3, .int x4]) (st' := [.int x2, .int y2, .int x3]) (h' := mw φ1) rfl ?_
      refine qr_ne2 (tgt := 57) hC rfl (by decide) rfl (fun hc => ?_) (fun hc => ?_)
      · rw [if_pos hc] at hs
        refine qr_s hC (n := 5) (pc' := 32) (ls' := [.ref 0, .int x1, .int x2, .int (x3 + 0), .int (x4 + 1)]) (st' := []) (h' := mw φ1) rfl ?_
        exact ih φ1 x1 x2 (x3 + 0) (x4 + 1) _ hs
      · rw [if_neg hc] at hs
        refine qr_s hC (n := 6) (pc' := 32) (ls' := [.ref 0, .int x1, .int x2, .int (x3 + 1), .int (x4 + 1)]) (st' := []) (h' := mw φ1) rfl ?_
        exact ih φ1 x1 x2 (x3 + 1) (x4 + 1) _ hs
set_option maxRecDepth 100000 in
theorem mo_by_n (F d : Nat) (φ : qm_F) (x1 : Int32) (x2 : Int32) (r : (Int32 × qm_F)) (hd : 48 ≤ d) (hs : mo_by F φ x1 x2 = some r) : qm_Rn d 131 0 [.ref 0, .int x1, .int x2, .retAddr 0, .retAddr 0] [] (mw φ) (some (.int r.1), mw r.2) := by
  obtain ⟨d, rfl⟩ : ∃ e, d = e + 1 := ⟨d - 1, by omega⟩
  have hC := qC_131
  unfold mo_by at hs
  refine qr_s hC (n := 5) (pc' := 7) (ls' := [.ref 0, .int x1, .int x2, .retAddr 0, .retAddr 0]) (st' := [.int x1, .ref 0]) (h' := mw (qm_u φ 0 0 0)) rfl ?_
  obtain ⟨y1, hy, hs⟩ := qb1_s hs
  refine qr_c (j := 80) (as := [.ref 0, .int x1]) (rest := []) (v := some (.int y1)) (h1 := mw (qm_u φ 0 0 0)) hC rfl rfl qC_80 rfl rfl (mo_isGuess_n F d (qm_u φ 0 0 0) x1 _ (by omega) hy) ?_
  show qm_Rn (d + 1) 131 10 [.ref 0, .int x1, .int x2, .retAddr 0, .retAddr 0] [.int y1] (mw (qm_u φ 0 0 0)) _
  refine qr_eq1 (tgt := 25) hC rfl (by decide) rfl (fun hc => ?_) (fun hc => ?_)
  · rw [if_pos hc] at hs
    refine qr_s hC (n := 1) (pc' := 26) (ls' := [.ref 0, .int x1, .int x2, .retAddr 0, .retAddr 0]) (st' := [.int (-1)]) (h' := mw (qm_u φ 0 0 0)) rfl ?_
    have hs := Option.some.inj hs
    subst hs
    exact qr_r hC rfl rfl
  · rw [if_neg hc] at hs
    refine qr_s hC (n := 4) (pc' := 19) (ls' := [.ref 0, .int x1, .int x2, .retAddr 0, .retAddr 0]) (st' := [.long 5, .long 0, .long (Int32.toInt64 x2)]) (h' := mw (qm_u φ 0 0 0)) rfl ?_
    obtain ⟨y2, hy, hs⟩ := qb1_s hs
    refine qr_c (j := 31) (as := [.long (Int32.toInt64 x2), .long 0, .long 5]) (rest := []) (v := some (.int y2)) (h1 := mw (qm_u φ 0 0 0)) hC rfl rfl qC_31 rfl rfl (mo_within_n F d (qm_u φ 0 0 0) (Int32.toInt64 x2) 0 5 _ (by omega) hy) ?_
    show qm_Rn (d + 1) 131 22 [.ref 0, .int x1, .int x2, .retAddr 0, .retAddr 0] [.int y2] (mw (qm_u φ 0 0 0)) _
    refine qr_ne1 (tgt := 27) hC rfl (by decide) rfl (fun hc => ?_) (fun hc => ?_)
    · rw [if_pos hc] at hs
      refine qr_s hC (n := 4) (pc' := 32) (ls' := [.ref 0, .int x1, .int x2, .int 0, .int 0]) (st' := []) (h' := mw (qm_u φ 0 0 0)) rfl ?_
      exact mo_by_L32_n F (d + 1) (by omega) F (qm_u φ 0 0 0) x1 x2 0 0 _ hs
    · rw [if_neg hc] at hs
      refine qr_s hC (n := 1) (pc' := 26) (ls' := [.ref 0, .int x1, .int x2, .retAddr 0, .retAddr 0]) (st' := [.int (-1)]) (h' := mw (qm_u φ 0 0 0)) rfl ?_
      have hs := Option.some.inj hs
      subst hs
      exact qr_r hC rfl rfl
/-- SketchFillerModel.refutes(I)I -/
def mo_refutes (F : Nat) (φ : qm_F) (x1 : Int32) : Option (Int32 × qm_F) :=
  qb1 (mo_isInput F (qm_u φ 0 0 0) x1) fun y1 =>
  if y1 = 0 then
    some ((-1), (qm_u φ 0 0 0))
  else
    qb2 (mo_refutesOf F (qm_u φ 0 0 0) x1) fun y2 φ1 =>
    some (y2, φ1)
set_option maxRecDepth 100000 in
theorem mo_refutes_n (F d : Nat) (φ : qm_F) (x1 : Int32) (r : (Int32 × qm_F)) (hd : 50 ≤ d) (hs : mo_refutes F φ x1 = some r) : qm_Rn d 132 0 [.ref 0, .int x1] [] (mw φ) (some (.int r.1), mw r.2) := by
  obtain ⟨d, rfl⟩ : ∃ e, d = e + 1 := ⟨d - 1, by omega⟩
  have hC := qC_132
  unfold mo_refutes at hs
  refine qr_s hC (n := 5) (pc' := 7) (ls' := [.ref 0, .int x1]) (st' := [.int x1, .ref 0]) (h' := mw (qm_u φ 0 0 0)) rfl ?_
  obtain ⟨y1, hy, hs⟩ := qb1_s hs
  refine qr_c (j := 81) (as := [.ref 0, .int x1]) (rest := []) (v := some (.int y1)) (h1 := mw (qm_u φ 0 0 0)) hC rfl rfl qC_81 rfl rfl (mo_isInput_n F d (qm_u φ 0 0 0) x1 _ (by omega) hy) ?_
  show qm_Rn (d + 1) 132 10 [.ref 0, .int x1] [.int y1] (mw (qm_u φ 0 0 0)) _
  refine qr_eq1 (tgt := 21) hC rfl (by decide) rfl (fun hc => ?_) (fun hc => ?_)
  · rw [if_pos hc] at hs
    refine qr_s hC (n := 1) (pc' := 22) (ls' := [.ref 0, .int x1]) (st' := [.int (-1)]) (h' := mw (qm_u φ 0 0 0)) rfl ?_
    have hs := Option.some.inj hs
    subst hs
    exact qr_r hC rfl rfl
  · rw [if_neg hc] at hs
    refine qr_s hC (n := 2) (pc' := 15) (ls' := [.ref 0, .int x1]) (st' := [.int x1, .ref 0]) (h' := mw (qm_u φ 0 0 0)) rfl ?_
    obtain ⟨y2, φ1, hy, hs⟩ := qb2_s hs
    refine qr_c (j := 118) (as := [.ref 0, .int x1]) (rest := []) (v := some (.int y2)) (h1 := mw φ1) hC rfl rfl qC_118 rfl rfl (mo_refutesOf_n F d (qm_u φ 0 0 0) x1 _ (by omega) hy) ?_
    show qm_Rn (d + 1) 132 18 [.ref 0, .int x1] [.int y2] (mw φ1) _
    refine qr_s hC (n := 1) (pc' := 22) (ls' := [.ref 0, .int x1]) (st' := [.int y2]) (h' := mw φ1) rfl ?_
    have hs := Option.some.inj hs
    subst hs
    exact qr_r hC rfl rfl
/-- SketchFillerModel.sharpest(I)I -/
def mo_sharpest_L31 (F : Nat) : Nat → qm_F → Int32 → Int32 → Int32 → Int32 → Option (Int32 × qm_F)
  | 0, _, _, _, _, _ => none
  | n + 1, φ, x1, x2, x3, x4 =>
    qb1 (mo_inputs F φ) fun y1 =>
    if y1 ≤ x4 then
      if ¬ x1 = 0 then
        some (x3, φ)
      else
        some (x2, φ)
    else
      qb2 (mo_refutesOf F φ x4) fun y2 φ1 =>
      if x3 < y2 then
        mo_sharpest_L31 F n φ1 x1 x4 y2 (x4 + 1)
      else
        mo_sharpest_L31 F n φ1 x1 x2 x3 (x4 + 1)
def mo_sharpest (F : Nat) (φ : qm_F) (x1 : Int32) : Option (Int32 × qm_F) :=
  if (φ 0 12) = 0 then
    some ((-1), (qm_u φ 0 0 0))
  else
    qb1 (mo_within F (qm_u φ 0 0 0) (Int32.toInt64 x1) 0 1) fun y1 =>
    if ¬ y1 = 0 then
      mo_sharpest_L31 F F (qm_u φ 0 0 0) x1 (-1) 0 0
    else
      some ((-1), (qm_u φ 0 0 0))
set_option maxRecDepth 100000 in
theorem mo_sharpest_L31_n (F d : Nat) (hd : 50 ≤ d) : ∀ (n : Nat) (φ : qm_F) (x1 : Int32) (x2 : Int32) (x3 : Int32) (x4 : Int32) (r : (Int32 × qm_F)), mo_sharpest_L31 F n φ x1 x2 x3 x4 = some r → qm_Rn d 133 31 [.ref 0, .int x1, .int x2, .int x3, .int x4, .retAddr 0] [] (mw φ) (some (.int r.1), mw r.2) := by
  obtain ⟨d, rfl⟩ : ∃ e, d = e + 1 := ⟨d - 1, by omega⟩
  have hC := qC_133
  intro n
  induction n with
  | zero => intro φ x1 x2 x3 x4 r hs; simp [mo_sharpest_L31] at hs
  | succ n ih =>
    intro φ x1 x2 x3 x4 r hs
    rw [mo_sharpest_L31] at hs
    refine qr_s hC (n := 2) (pc' := 34) (ls' := [.ref 0, .int x1, .int x2, .int x3, .int x4, .retAddr 0]) (st' := [.ref 0, .int x4]) (h' := mw φ) rfl ?_
    obtain ⟨y1, hy, hs⟩ := qb1_s hs
    refine qr_c (j := 79) (as := [.ref 0]) (rest := [.int x4]) (v := some (.int y1)) (h1 := mw φ) hC rfl rfl qC_79 rfl rfl (mo_inputs_n F d φ _ (by omega) hy) ?_
    show qm_Rn (d + 1) 133 37 [.ref 0, .int x1, .int x2, .int x3, .int x4, .retAddr 0] [.int y1, .int x4] (mw φ) _
    refine qr_ge2 (tgt := 69) hC rfl (by decide) rfl (fun hc => ?_) (fun hc => ?_)
    · rw [if_pos hc] at hs
      refine qr_s hC (n := 1) (pc' := 70) (ls' := [.ref 0, .int x1, .int x2, .int x3, .int x4, .retAddr 0]) (st' := [.int x1]) (h' := mw φ) rfl ?_
      refine qr_ne1 (tgt := 77) hC rfl (by decide) rfl (fun hc => ?_) (fun hc => ?_)
      · rw [if_pos hc] at hs
        refine qr_s hC (n := 1) (pc' := 78) (ls' := [.ref 0, .int x1, .int x2, .int x3, .int x4, .retAddr 0]) (st' := [.int x3]) (h' := mw φ) rfl ?_
        have hs := Option.some.inj hs
        subst hs
        exact qr_r hC rfl rfl
      · rw [if_neg hc] at hs
        refine qr_s hC (n := 2) (pc' := 78) (ls' := [.ref 0, .int x1, .int x2, .int x3, .int x4, .retAddr 0]) (st' := [.int x2]) (h' := mw φ) rfl ?_
        have hs := Option.some.inj hs
        subst hs
        exact qr_r hC rfl rfl
    · rw [if_neg hc] at hs
      refine qr_s hC (n := 2) (pc' := 43) (ls' := [.ref 0, .int x1, .int x2, .int x3, .int x4, .retAddr 0]) (st' := [.int x4, .ref 0]) (h' := mw φ) rfl ?_
      obtain ⟨y2, φ1, hy, hs⟩ := qb2_s hs
      refine qr_c (j := 118) (as := [.ref 0, .int x4]) (rest := []) (v := some (.int y2)) (h1 := mw φ1) hC rfl rfl qC_118 rfl rfl (mo_refutesOf_n F d φ x4 _ (by omega) hy) ?_
      show qm_Rn (d + 1) 133 46 [.ref 0, .int x1, .int x2, .int x3, .int x4, .retAddr 0] [.int y2] (mw φ1) _
      refine qr_s hC (n := 3) (pc' := 51) (ls' := [.ref 0, .int x1, .int x2, .int x3, .int x4, .int y2]) (st' := [.int x3, .int y2]) (h' := mw φ1) rfl ?_
      refine qr_gt2 (tgt := 57) hC rfl (by decide) rfl (fun hc => ?_) (fun hc => ?_)
      · rw [if_pos hc] at hs
        refine qr_s hC (n := 6) (pc' := 31) (ls' := [.ref 0, .int x1, .int x4, .int y2, .int (x4 + 1), .int y2]) (st' := []) (h' := mw φ1) rfl ?_
        exact qr_w (a := [.ref 0, .int x1, .int x4, .int y2, .int (x4 + 1), .retAddr 0]) ⟨Or.inr rfl, Or.inr rfl, Or.inr rfl, Or.inr rfl, Or.inr rfl, Or.inl rfl, trivial⟩ (ih φ1 x1 x4 y2 (x4 + 1) _ hs)
      · rw [if_neg hc] at hs
        refine qr_s hC (n := 3) (pc' := 31) (ls' := [.ref 0, .int x1, .int x2, .int x3, .int (x4 + 1), .int y2]) (st' := []) (h' := mw φ1) rfl ?_
        exact qr_w (a := [.ref 0, .int x1, .int x2, .int x3, .int (x4 + 1), .retAddr 0]) ⟨Or.inr rfl, Or.inr rfl, Or.inr rfl, Or.inr rfl, Or.inr rfl, Or.inl rfl, trivial⟩ (ih φ1 x1 x2 x3 (x4 + 1) _ hs)
set_option maxRecDepth 100000 in
theorem mo_sharpest_n (F d : Nat) (φ : qm_F) (x1 : Int32) (r : (Int32 × qm_F)) (hd : 50 ≤ d) (hs : mo_sharpest F φ x1 = some r) : qm_Rn d 133 0 [.ref 0, .int x1, .retAddr 0, .retAddr 0, .retAddr 0, .retAddr 0] [] (mw φ) (some (.int r.1), mw r.2) := by
  obtain ⟨d, rfl⟩ : ∃ e, d = e + 1 := ⟨d - 1, by omega⟩
  have hC := qC_133
  unfold mo_sharpest at hs
  refine qr_s hC (n := 5) (pc' := 9) (ls' := [.ref 0, .int x1, .retAddr 0, .retAddr 0, .retAddr 0, .retAddr 0]) (st' := [.int (φ 0 12)]) (h' := mw (qm_u φ 0 0 0)) rfl ?_
  refine qr_eq1 (tgt := 22) hC rfl (by decide) rfl (fun hc => ?_) (fun hc => ?_)
  · rw [if_pos hc] at hs
    refine qr_s hC (n := 1) (pc' := 23) (ls' := [.ref 0, .int x1, .retAddr 0, .retAddr 0, .retAddr 0, .retAddr 0]) (st' := [.int (-1)]) (h' := mw (qm_u φ 0 0 0)) rfl ?_
    have hs := Option.some.inj hs
    subst hs
    exact qr_r hC rfl rfl
  · rw [if_neg hc] at hs
    refine qr_s hC (n := 4) (pc' := 16) (ls' := [.ref 0, .int x1, .retAddr 0, .retAddr 0, .retAddr 0, .retAddr 0]) (st' := [.long 1, .long 0, .long (Int32.toInt64 x1)]) (h' := mw (qm_u φ 0 0 0)) rfl ?_
    obtain ⟨y1, hy, hs⟩ := qb1_s hs
    refine qr_c (j := 31) (as := [.long (Int32.toInt64 x1), .long 0, .long 1]) (rest := []) (v := some (.int y1)) (h1 := mw (qm_u φ 0 0 0)) hC rfl rfl qC_31 rfl rfl (mo_within_n F d (qm_u φ 0 0 0) (Int32.toInt64 x1) 0 1 _ (by omega) hy) ?_
    show qm_Rn (d + 1) 133 19 [.ref 0, .int x1, .retAddr 0, .retAddr 0, .retAddr 0, .retAddr 0] [.int y1] (mw (qm_u φ 0 0 0)) _
    refine qr_ne1 (tgt := 24) hC rfl (by decide) rfl (fun hc => ?_) (fun hc => ?_)
    · rw [if_pos hc] at hs
      refine qr_s hC (n := 6) (pc' := 31) (ls' := [.ref 0, .int x1, .int (-1), .int 0, .int 0, .retAddr 0]) (st' := []) (h' := mw (qm_u φ 0 0 0)) rfl ?_
      exact mo_sharpest_L31_n F (d + 1) (by omega) F (qm_u φ 0 0 0) x1 (-1) 0 0 _ hs
    · rw [if_neg hc] at hs
      refine qr_s hC (n := 1) (pc' := 23) (ls' := [.ref 0, .int x1, .retAddr 0, .retAddr 0, .retAddr 0, .retAddr 0]) (st' := [.int (-1)]) (h' := mw (qm_u φ 0 0 0)) rfl ?_
      have hs := Option.some.inj hs
      subst hs
      exact qr_r hC rfl rfl
/-- SketchFillerModel.free(II)I -/
def mo_free_L89 (F : Nat) : Nat → qm_F → Int32 → Int32 → Int32 → Int32 → Int32 → Option (Int32 × qm_F)
  | 0, _, _, _, _, _, _ => none
  | n + 1, φ, x3, x4, x5, x6, x7 =>
    if x4 ≤ x7 then
      some (x6, φ)
    else
      qb2 (mo_refuterOf F φ (x5 + (x7 <<< (x3 &&& 31)))) fun y1 φ1 =>
      if 0 ≤ y1 then
        mo_free_L89 F n φ1 x3 x4 x5 (x6 + 0) (x7 + 1)
      else
        mo_free_L89 F n φ1 x3 x4 x5 (x6 + 1) (x7 + 1)
def mo_free_L30 (F : Nat) : Nat → qm_F → Int32 → Int32 → Int32 → Int32 → Option (Int32 × qm_F)
  | 0, _, _, _, _, _ => none
  | n + 1, φ, x1, x2, x3, x4 =>
    if (φ 2 2) ≤ x4 then
      qg (qm_in (3 + x2) 30) <|
      qb1 (mo_holeIn F φ x1 x2) fun y1 =>
      mo_free_L89 F F φ x3 (1 <<< ((φ 4 ((3 + x2).toNatClampNeg)) &&& 31)) (x1 - (y1 <<< (x3 &&& 31))) 0 0
    else
      qg (qm_in (3 + x4) 30) <|
      mo_free_L30 F n φ x1 x2 (x3 + (φ 4 ((3 + x4).toNatClampNeg))) (x4 + 1)
def mo_free (F : Nat) (φ : qm_F) (x1 : Int32) (x2 : Int32) : Option (Int32 × qm_F) :=
  qb1 (mo_isGuess F (qm_u φ 0 0 0) x1) fun y1 =>
  if y1 = 0 then
    some ((-1), (qm_u φ 0 0 0))
  else
    qb1 (mo_isHole F (qm_u φ 0 0 0) x2) fun y2 =>
    if ¬ y2 = 0 then
      mo_free_L30 F F (qm_u φ 0 0 0) x1 x2 0 (x2 + 1)
    else
      some ((-1), (qm_u φ 0 0 0))
set_option maxRecDepth 100000 in
theorem mo_free_L89_n (F d : Nat) (hd : 49 ≤ d) : ∀ (n : Nat) (φ : qm_F) (x3 : Int32) (x4 : Int32) (x5 : Int32) (x6 : Int32) (x7 : Int32) (r : (Int32 × qm_F)), mo_free_L89 F n φ x3 x4 x5 x6 x7 = some r → qm_Rn d 134 89 [.ref 0, .retAddr 0, .retAddr 0, .int x3, .int x4, .int x5, .int x6, .int x7] [] (mw φ) (some (.int r.1), mw r.2) := by
  obtain ⟨d, rfl⟩ : ∃ e, d = e + 1 := ⟨d - 1, by omega⟩
  have hC := qC_134
  intro n
  induction n with
  | zero => intro φ x3 x4 x5 x6 x7 r hs; simp [mo_free_L89] at hs
  | succ n ih =>
    intro φ x3 x4 x5 x6 x7 r hs
    rw [mo_free_L89] at hs
    refine qr_s hC (n := 2) (pc' := 93) (ls' := [.ref 0, .retAddr 0, .retAddr 0, .int x3, .int x4, .int x5, .int x6, .int x7]) (st' := [.int x4, .int x7]) (h' := mw φ) rfl ?_
    refine qr_ge2 (tgt := 126) hC rfl (by decide) rfl (fun hc => ?_) (fun hc => ?_)
    · rw [if_pos hc] at hs
      refine qr_s hC (n := 1) (pc' := 128) (ls' := [.ref 0, .retAddr 0, .retAddr 0, .int x3, .int x4, .int x5, .int x6, .int x7]) (st' := [.int x6]) (h' := mw φ) rfl ?_
      have hs := Option.some.inj hs
      subst hs
      exact qr_r hC rfl rfl
    · rw [if_neg hc] at hs
      refine qr_s hC (n := 7) (pc' := 106) (ls' := [.ref 0, .retAddr 0, .retAddr 0, .int x3, .int x4, .int x5, .int x6, .int x7]) (st' := [.int (x5 + (x7 <<< (x3 &&& 31))), .ref 0, .int x6]) (h' := mw φ) rfl ?_
      obtain ⟨y1, φ1, hy, hs⟩ := qb2_s hs
      refine qr_c (j := 109) (as := [.ref 0, .int (x5 + (x7 <<< (x3 &&& 31)))]) (rest := [.int x6]) (v := some (.int y1)) (h1 := mw φ1) hC rfl rfl qC_109 rfl rfl (mo_refuterOf_n F d φ (x5 + (x7 <<< (x3 &&& 31))) _ (by omega) hy) ?_
      show qm_Rn (d + 1) 134 109 [.ref 0, .retAddr 0, .retAddr 0, .int x3, .int x4, .int x5, .int x6, .int x7] [.int y1, .int x6] (mw φ1) _
      refine qr_ge1 (tgt := 116) hC rfl (by decide) rfl (fun hc => ?_) (fun hc => ?_)
      · rw [if_pos hc] at hs
        refine qr_s hC (n := 5) (pc' := 89) (ls' := [.ref 0, .retAddr 0, .retAddr 0, .int x3, .int x4, .int x5, .int (x6 + 0), .int (x7 + 1)]) (st' := []) (h' := mw φ1) rfl ?_
        exact ih φ1 x3 x4 x5 (x6 + 0) (x7 + 1) _ hs
      · rw [if_neg hc] at hs
        refine qr_s hC (n := 6) (pc' := 89) (ls' := [.ref 0, .retAddr 0, .retAddr 0, .int x3, .int x4, .int x5, .int (x6 + 1), .int (x7 + 1)]) (st' := []) (h' := mw φ1) rfl ?_
        exact ih φ1 x3 x4 x5 (x6 + 1) (x7 + 1) _ hs
set_option maxRecDepth 100000 in
theorem mo_free_L30_n (F d : Nat) (hd : 49 ≤ d) : ∀ (n : Nat) (φ : qm_F) (x1 : Int32) (x2 : Int32) (x3 : Int32) (x4 : Int32) (r : (Int32 × qm_F)), mo_free_L30 F n φ x1 x2 x3 x4 = some r → qm_Rn d 134 30 [.ref 0, .int x1, .int x2, .int x3, .int x4, .retAddr 0, .retAddr 0, .retAddr 0] [] (mw φ) (some (.int r.1), mw r.2) := by
  obtain ⟨d, rfl⟩ : ∃ e, d = e + 1 := ⟨d - 1, by omega⟩
  have hC := qC_134
  intro n
  induction n with
  | zero => intro φ x1 x2 x3 x4 r hs; simp [mo_free_L30] at hs
  | succ n ih =>
    intro φ x1 x2 x3 x4 r hs
    rw [mo_free_L30] at hs
    refine qr_s hC (n := 4) (pc' := 37) (ls' := [.ref 0, .int x1, .int x2, .int x3, .int x4, .retAddr 0, .retAddr 0, .retAddr 0]) (st' := [.int 2, .ref 2, .int x4]) (h' := mw φ) rfl ?_
    refine qr_ia (v := φ 2 2) hC rfl rfl (by decide) rfl ?_
    refine qr_ge2 (tgt := 59) hC rfl (by decide) rfl (fun hc => ?_) (fun hc => ?_)
    · rw [if_pos hc] at hs
      refine qr_s hC (n := 6) (pc' := 67) (ls' := [.ref 0, .int x1, .int x2, .int x3, .int x4, .retAddr 0, .retAddr 0, .retAddr 0]) (st' := [.int (3 + x2), .ref 4, .int 1]) (h' := mw φ) rfl ?_
      obtain ⟨hq, hs⟩ := qg_s hs
      refine qr_ia (v := φ 4 ((3 + x2).toNatClampNeg)) hC rfl rfl hq rfl ?_
      refine qr_s hC (n := 6) (pc' := 75) (ls' := [.ref 0, .int x1, .int x2, .int x3, .int (1 <<< ((φ 4 ((3 + x2).toNatClampNeg)) &&& 31)), .retAddr 0, .retAddr 0, .retAddr 0]) (st' := [.int x2, .int x1, .ref 0, .int x1]) (h' := mw φ) rfl ?_
      obtain ⟨y1, hy, hs⟩ := qb1_s hs
      refine qr_c (j := 84) (as := [.ref 0, .int x1, .int x2]) (rest := [.int x1]) (v := some (.int y1)) (h1 := mw φ) hC rfl rfl qC_84 rfl rfl (mo_holeIn_n F d φ x1 x2 _ (by omega) hy) ?_
      show qm_Rn (d + 1) 134 78 [.ref 0, .int x1, .int x2, .int x3, .int (1 <<< ((φ 4 ((3 + x2).toNatClampNeg)) &&& 31)), .retAddr 0, .retAddr 0, .retAddr 0] [.int y1, .int x1] (mw φ) _
      refine qr_s hC (n := 8) (pc' := 89) (ls' := [.ref 0, .int x1, .int x2, .int x3, .int (1 <<< ((φ 4 ((3 + x2).toNatClampNeg)) &&& 31)), .int (x1 - (y1 <<< (x3 &&& 31))), .int 0, .int 0]) (st' := []) (h' := mw φ) rfl ?_
      exact qr_w (a := [.ref 0, .retAddr 0, .retAddr 0, .int x3, .int (1 <<< ((φ 4 ((3 + x2).toNatClampNeg)) &&& 31)), .int (x1 - (y1 <<< (x3 &&& 31))), .int 0, .int 0]) ⟨Or.inr rfl, Or.inl rfl, Or.inl rfl, Or.inr rfl, Or.inr rfl, Or.inr rfl, Or.inr rfl, Or.inr rfl, trivial⟩ (mo_free_L89_n F (d + 1) (by omega) F φ x3 (1 <<< ((φ 4 ((3 + x2).toNatClampNeg)) &&& 31)) (x1 - (y1 <<< (x3 &&& 31))) 0 0 _ hs)
    · rw [if_neg hc] at hs
      refine qr_s hC (n := 6) (pc' := 50) (ls' := [.ref 0, .int x1, .int x2, .int x3, .int x4, .retAddr 0, .retAddr 0, .retAddr 0]) (st' := [.int (3 + x4), .ref 4, .int x3]) (h' := mw φ) rfl ?_
      obtain ⟨hq, hs⟩ := qg_s hs
      refine qr_ia (v := φ 4 ((3 + x4).toNatClampNeg)) hC rfl rfl hq rfl ?_
      refine qr_s hC (n := 4) (pc' := 30) (ls' := [.ref 0, .int x1, .int x2, .int (x3 + (φ 4 ((3 + x4).toNatClampNeg))), .int (x4 + 1), .retAddr 0, .retAddr 0, .retAddr 0]) (st' := []) (h' := mw φ) rfl ?_
      exact ih φ x1 x2 (x3 + (φ 4 ((3 + x4).toNatClampNeg))) (x4 + 1) _ hs
set_option maxRecDepth 100000 in
theorem mo_free_n (F d : Nat) (φ : qm_F) (x1 : Int32) (x2 : Int32) (r : (Int32 × qm_F)) (hd : 49 ≤ d) (hs : mo_free F φ x1 x2 = some r) : qm_Rn d 134 0 [.ref 0, .int x1, .int x2, .retAddr 0, .retAddr 0, .retAddr 0, .retAddr 0, .retAddr 0] [] (mw φ) (some (.int r.1), mw r.2) := by
  obtain ⟨d, rfl⟩ : ∃ e, d = e + 1 := ⟨d - 1, by omega⟩
  have hC := qC_134
  unfold mo_free at hs
  refine qr_s hC (n := 5) (pc' := 7) (ls' := [.ref 0, .int x1, .int x2, .retAddr 0, .retAddr 0, .retAddr 0, .retAddr 0, .retAddr 0]) (st' := [.int x1, .ref 0]) (h' := mw (qm_u φ 0 0 0)) rfl ?_
  obtain ⟨y1, hy, hs⟩ := qb1_s hs
  refine qr_c (j := 80) (as := [.ref 0, .int x1]) (rest := []) (v := some (.int y1)) (h1 := mw (qm_u φ 0 0 0)) hC rfl rfl qC_80 rfl rfl (mo_isGuess_n F d (qm_u φ 0 0 0) x1 _ (by omega) hy) ?_
  show qm_Rn (d + 1) 134 10 [.ref 0, .int x1, .int x2, .retAddr 0, .retAddr 0, .retAddr 0, .retAddr 0, .retAddr 0] [.int y1] (mw (qm_u φ 0 0 0)) _
  refine qr_eq1 (tgt := 21) hC rfl (by decide) rfl (fun hc => ?_) (fun hc => ?_)
  · rw [if_pos hc] at hs
    refine qr_s hC (n := 1) (pc' := 22) (ls' := [.ref 0, .int x1, .int x2, .retAddr 0, .retAddr 0, .retAddr 0, .retAddr 0, .retAddr 0]) (st' := [.int (-1)]) (h' := mw (qm_u φ 0 0 0)) rfl ?_
    have hs := Option.some.inj hs
    subst hs
    exact qr_r hC rfl rfl
  · rw [if_neg hc] at hs
    refine qr_s hC (n := 2) (pc' := 15) (ls' := [.ref 0, .int x1, .int x2, .retAddr 0, .retAddr 0, .retAddr 0, .retAddr 0, .retAddr 0]) (st' := [.int x2, .ref 0]) (h' := mw (qm_u φ 0 0 0)) rfl ?_
    obtain ⟨y2, hy, hs⟩ := qb1_s hs
    refine qr_c (j := 82) (as := [.ref 0, .int x2]) (rest := []) (v := some (.int y2)) (h1 := mw (qm_u φ 0 0 0)) hC rfl rfl qC_82 rfl rfl (mo_isHole_n F d (qm_u φ 0 0 0) x2 _ (by omega) hy) ?_
    show qm_Rn (d + 1) 134 18 [.ref 0, .int x1, .int x2, .retAddr 0, .retAddr 0, .retAddr 0, .retAddr 0, .retAddr 0] [.int y2] (mw (qm_u φ 0 0 0)) _
    refine qr_ne1 (tgt := 23) hC rfl (by decide) rfl (fun hc => ?_) (fun hc => ?_)
    · rw [if_pos hc] at hs
      refine qr_s hC (n := 6) (pc' := 30) (ls' := [.ref 0, .int x1, .int x2, .int 0, .int (x2 + 1), .retAddr 0, .retAddr 0, .retAddr 0]) (st' := []) (h' := mw (qm_u φ 0 0 0)) rfl ?_
      exact mo_free_L30_n F (d + 1) (by omega) F (qm_u φ 0 0 0) x1 x2 0 (x2 + 1) _ hs
    · rw [if_neg hc] at hs
      refine qr_s hC (n := 1) (pc' := 22) (ls' := [.ref 0, .int x1, .int x2, .retAddr 0, .retAddr 0, .retAddr 0, .retAddr 0, .retAddr 0]) (st' := [.int (-1)]) (h' := mw (qm_u φ 0 0 0)) rfl ?_
      have hs := Option.some.inj hs
      subst hs
      exact qr_r hC rfl rfl
