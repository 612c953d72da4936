/-- SketchFillerModel.at(I)I -/
def mo_at (F : Nat) (φ : qm_F) (x1 : Int32) : Option Int32 :=
  some (6 * ((24 * (φ 0 13)) + x1))
set_option maxRecDepth 100000 in
theorem mo_at_n (F d : Nat) (φ : qm_F) (x1 : Int32) (r : Int32) (hd : 0 ≤ d) (hs : mo_at F φ x1 = some r) : qm_Rn d 55 0 [.ref 0, .int x1] [] (mw φ) (some (.int r), mw φ) := by
  have hC := qC_55
  unfold mo_at at hs
  refine qr_s hC (n := 8) (pc' := 12) (ls' := [.ref 0, .int x1]) (st' := [.int (6 * ((24 * (φ 0 13)) + x1))]) (h' := mw φ) rfl ?_
  have hs := Option.some.inj hs
  subst hs
  exact qr_r hC rfl rfl
/-- SketchFillerModel.eOf(I)Z -/
def mo_eOf (F : Nat) (φ : qm_F) (x1 : Int32) : Option (Int32 × qm_F) :=
  qb1 (mo_at F (qm_u φ 0 28 0) x1) fun y1 =>
  qg (qm_in (y1 + 2) 288) <|
  qb2 (mg_E F 80 2 (qm_u (qm_u φ 0 28 0) 6 ((y1 + 2).toNatClampNeg) (φ 0 21)) 0 0) fun y2 φ1 =>
  if ¬ y2 = 0 then
    qb1 (mo_at F φ1 x1) fun y3 =>
    qg (qm_in (y3 + 3) 288) <|
    some (1, (qm_u φ1 6 ((y3 + 3).toNatClampNeg) (φ1 0 21)))
  else
    some (0, φ1)
set_option maxRecDepth 100000 in
theorem mo_eOf_n (F d : Nat) (φ : qm_F) (x1 : Int32) (r : (Int32 × qm_F)) (hd : 84 ≤ d) (hs : mo_eOf F φ x1 = some r) : qm_Rn d 56 0 [.ref 0, .int x1] [] (mw φ) (some (.int r.1), mw r.2) := by
  obtain ⟨d, rfl⟩ : ∃ e, d = e + 1 := ⟨d - 1, by omega⟩
  have hC := qC_56
  unfold mo_eOf at hs
  refine qr_s hC (n := 7) (pc' := 11) (ls' := [.ref 0, .int x1]) (st' := [.int x1, .ref 0, .ref 6]) (h' := mw (qm_u φ 0 28 0)) rfl ?_
  obtain ⟨y1, hy, hs⟩ := qb1_s hs
  refine qr_c (j := 55) (as := [.ref 0, .int x1]) (rest := [.ref 6]) (v := some (.int y1)) (h1 := mw (qm_u φ 0 28 0)) hC rfl rfl qC_55 rfl rfl (mo_at_n F d (qm_u φ 0 28 0) x1 _ (by omega) hy) ?_
  show qm_Rn (d + 1) 56 14 [.ref 0, .int x1] [.int y1, .ref 6] (mw (qm_u φ 0 28 0)) _
  refine qr_s hC (n := 4) (pc' := 20) (ls' := [.ref 0, .int x1]) (st' := [.int (φ 0 21), .int (y1 + 2), .ref 6]) (h' := mw (qm_u φ 0 28 0)) rfl ?_
  obtain ⟨hq, hs⟩ := qg_s hs
  refine qr_is (h' := mw (qm_u (qm_u φ 0 28 0) 6 ((y1 + 2).toNatClampNeg) (φ 0 21))) hC rfl rfl hq rfl ?_
  refine qr_s hC (n := 1) (pc' := 22) (ls' := [.ref 0, .int x1]) (st' := [.ref 0]) (h' := mw (qm_u (qm_u φ 0 28 0) 6 ((y1 + 2).toNatClampNeg) (φ 0 21))) rfl ?_
  obtain ⟨y2, φ1, hy, hs⟩ := qb2_s hs
  refine qr_c (j := 54) (as := [.ref 0]) (rest := []) (v := some (.int y2)) (h1 := mw φ1) hC rfl rfl qC_54 rfl rfl (mg_E_n F 80 2 (qm_u (qm_u φ 0 28 0) 6 ((y1 + 2).toNatClampNeg) (φ 0 21)) 0 0 _ d (by omega) hy) ?_
  show qm_Rn (d + 1) 56 25 [.ref 0, .int x1] [.int y2] (mw φ1) _
  refine qr_ne1 (tgt := 30) hC rfl (by decide) rfl (fun hc => ?_) (fun hc => ?_)
  · rw [if_pos hc] at hs
    refine qr_s hC (n := 4) (pc' := 36) (ls' := [.ref 0, .int x1]) (st' := [.int x1, .ref 0, .ref 6]) (h' := mw φ1) rfl ?_
    obtain ⟨y3, hy, hs⟩ := qb1_s hs
    refine qr_c (j := 55) (as := [.ref 0, .int x1]) (rest := [.ref 6]) (v := some (.int y3)) (h1 := mw φ1) hC rfl rfl qC_55 rfl rfl (mo_at_n F d φ1 x1 _ (by omega) hy) ?_
    show qm_Rn (d + 1) 56 39 [.ref 0, .int x1] [.int y3, .ref 6] (mw φ1) _
    refine qr_s hC (n := 4) (pc' := 45) (ls' := [.ref 0, .int x1]) (st' := [.int (φ1 0 21), .int (y3 + 3), .ref 6]) (h' := mw φ1) rfl ?_
    obtain ⟨hq, hs⟩ := qg_s hs
    refine qr_is (h' := mw (qm_u φ1 6 ((y3 + 3).toNatClampNeg) (φ1 0 21))) hC rfl rfl hq rfl ?_
    refine qr_s hC (n := 1) (pc' := 47) (ls' := [.ref 0, .int x1]) (st' := [.int 1]) (h' := mw (qm_u φ1 6 ((y3 + 3).toNatClampNeg) (φ1 0 21))) rfl ?_
    have hs := Option.some.inj hs
    subst hs
    exact qr_r hC rfl rfl
  · rw [if_neg hc] at hs
    refine qr_s hC (n := 1) (pc' := 29) (ls' := [.ref 0, .int x1]) (st' := [.int 0]) (h' := mw φ1) rfl ?_
    have hs := Option.some.inj hs
    subst hs
    exact qr_r hC rfl rfl
/-- SketchFillerModel.setHere()I -/
def mo_setHere (F : Nat) (φ : qm_F) : Option Int32 :=
  qb1 (mo_slotOf F φ (φ 0 8)) fun y1 =>
  if y1 < 8 then
    some (-1)
  else
    some y1
set_option maxRecDepth 100000 in
theorem mo_setHere_n (F d : Nat) (φ : qm_F) (r : Int32) (hd : 1 ≤ d) (hs : mo_setHere F φ = some r) : qm_Rn d 59 0 [.ref 0, .retAddr 0] [] (mw φ) (some (.int r), mw φ) := by
  obtain ⟨d, rfl⟩ : ∃ e, d = e + 1 := ⟨d - 1, by omega⟩
  have hC := qC_59
  unfold mo_setHere at hs
  refine qr_s hC (n := 3) (pc' := 5) (ls' := [.ref 0, .retAddr 0]) (st' := [.int (φ 0 8), .ref 0]) (h' := mw φ) rfl ?_
  obtain ⟨y1, hy, hs⟩ := qb1_s hs
  refine qr_c (j := 47) (as := [.ref 0, .int (φ 0 8)]) (rest := []) (v := some (.int y1)) (h1 := mw φ) hC rfl rfl qC_47 rfl rfl (mo_slotOf_n F d φ (φ 0 8) _ (by omega) hy) ?_
  show qm_Rn (d + 1) 59 8 [.ref 0, .retAddr 0] [.int y1] (mw φ) _
  refine qr_s hC (n := 3) (pc' := 12) (ls' := [.ref 0, .int y1]) (st' := [.int 8, .int y1]) (h' := mw φ) rfl ?_
  refine qr_lt2 (tgt := 19) hC rfl (by decide) rfl (fun hc => ?_) (fun hc => ?_)
  · rw [if_pos hc] at hs
    refine qr_s hC (n := 1) (pc' := 20) (ls' := [.ref 0, .int y1]) (st' := [.int (-1)]) (h' := mw φ) rfl ?_
    have hs := Option.some.inj hs
    subst hs
    exact qr_r hC rfl rfl
  · rw [if_neg hc] at hs
    refine qr_s hC (n := 2) (pc' := 20) (ls' := [.ref 0, .int y1]) (st' := [.int y1]) (h' := mw φ) rfl ?_
    have hs := Option.some.inj hs
    subst hs
    exact qr_r hC rfl rfl
/-- SketchFillerModel.kindHere()I -/
def mo_kindHere (F : Nat) (φ : qm_F) : Option Int32 :=
  qb1 (mo_own F φ) fun y1 =>
  qb1 (mo_isName F φ) fun y2 =>
  if y2 = 0 then
    if ¬ y1 = 5 then
      if ¬ y1 = 6 then
        if ¬ y1 = 8 then
          if ¬ y1 = 9 then
            if ¬ y1 = 11 then
              some (-1)
            else
              some 5
          else
            some 4
        else
          some 3
      else
        some 2
    else
      some 1
  else
    some 0
set_option maxRecDepth 100000 in
theorem mo_kindHere_n (F d : Nat) (φ : qm_F) (r : Int32) (hd : 3 ≤ d) (hs : mo_kindHere F φ = some r) : qm_Rn d 68 0 [.ref 0, .retAddr 0] [] (mw φ) (some (.int r), mw φ) := by
  obtain ⟨d, rfl⟩ : ∃ e, d = e + 1 := ⟨d - 1, by omega⟩
  have hC := qC_68
  unfold mo_kindHere at hs
  refine qr_s hC (n := 1) (pc' := 1) (ls' := [.ref 0, .retAddr 0]) (st' := [.ref 0]) (h' := mw φ) rfl ?_
  obtain ⟨y1, hy, hs⟩ := qb1_s hs
  refine qr_c (j := 40) (as := [.ref 0]) (rest := []) (v := some (.int y1)) (h1 := mw φ) hC rfl rfl qC_40 rfl rfl (mo_own_n F d φ _ (by omega) hy) ?_
  show qm_Rn (d + 1) 68 4 [.ref 0, .retAddr 0] [.int y1] (mw φ) _
  refine qr_s hC (n := 2) (pc' := 6) (ls' := [.ref 0, .int y1]) (st' := [.ref 0]) (h' := mw φ) rfl ?_
  obtain ⟨y2, hy, hs⟩ := qb1_s hs
  refine qr_c (j := 41) (as := [.ref 0]) (rest := []) (v := some (.int y2)) (h1 := mw φ) hC rfl rfl qC_41 rfl rfl (mo_isName_n F d φ _ (by omega) hy) ?_
  show qm_Rn (d + 1) 68 9 [.ref 0, .int y1] [.int y2] (mw φ) _
  refine qr_eq1 (tgt := 16) hC rfl (by decide) rfl (fun hc => ?_) (fun hc => ?_)
  · rw [if_pos hc] at hs
    refine qr_s hC (n := 2) (pc' := 18) (ls' := [.ref 0, .int y1]) (st' := [.int 5, .int y1]) (h' := mw φ) rfl ?_
    refine qr_ne2 (tgt := 25) hC rfl (by decide) rfl (fun hc => ?_) (fun hc => ?_)
    · rw [if_pos hc] at hs
      refine qr_s hC (n := 2) (pc' := 28) (ls' := [.ref 0, .int y1]) (st' := [.int 6, .int y1]) (h' := mw φ) rfl ?_
      refine qr_ne2 (tgt := 35) hC rfl (by decide) rfl (fun hc => ?_) (fun hc => ?_)
      · rw [if_pos hc] at hs
        refine qr_s hC (n := 2) (pc' := 38) (ls' := [.ref 0, .int y1]) (st' := [.int 8, .int y1]) (h' := mw φ) rfl ?_
        refine qr_ne2 (tgt := 45) hC rfl (by decide) rfl (fun hc => ?_) (fun hc => ?_)
        · rw [if_pos hc] at hs
          refine qr_s hC (n := 2) (pc' := 48) (ls' := [.ref 0, .int y1]) (st' := [.int 9, .int y1]) (h' := mw φ) rfl ?_
          refine qr_ne2 (tgt := 55) hC rfl (by decide) rfl (fun hc => ?_) (fun hc => ?_)
          · rw [if_pos hc] at hs
            refine qr_s hC (n := 2) (pc' := 58) (ls' := [.ref 0, .int y1]) (st' := [.int 11, .int y1]) (h' := mw φ) rfl ?_
            refine qr_ne2 (tgt := 65) hC rfl (by decide) rfl (fun hc => ?_) (fun hc => ?_)
            · rw [if_pos hc] at hs
              refine qr_s hC (n := 1) (pc' := 66) (ls' := [.ref 0, .int y1]) (st' := [.int (-1)]) (h' := mw φ) rfl ?_
              have hs := Option.some.inj hs
              subst hs
              exact qr_r hC rfl rfl
            · rw [if_neg hc] at hs
              refine qr_s hC (n := 2) (pc' := 66) (ls' := [.ref 0, .int y1]) (st' := [.int 5]) (h' := mw φ) rfl ?_
              have hs := Option.some.inj hs
              subst hs
              exact qr_r hC rfl rfl
          · rw [if_neg hc] at hs
            refine qr_s hC (n := 2) (pc' := 66) (ls' := [.ref 0, .int y1]) (st' := [.int 4]) (h' := mw φ) rfl ?_
            have hs := Option.some.inj hs
            subst hs
            exact qr_r hC rfl rfl
        · rw [if_neg hc] at hs
          refine qr_s hC (n := 2) (pc' := 66) (ls' := [.ref 0, .int y1]) (st' := [.int 3]) (h' := mw φ) rfl ?_
          have hs := Option.some.inj hs
          subst hs
          exact qr_r hC rfl rfl
      · rw [if_neg hc] at hs
        refine qr_s hC (n := 2) (pc' := 66) (ls' := [.ref 0, .int y1]) (st' := [.int 2]) (h' := mw φ) rfl ?_
        have hs := Option.some.inj hs
        subst hs
        exact qr_r hC rfl rfl
    · rw [if_neg hc] at hs
      refine qr_s hC (n := 2) (pc' := 66) (ls' := [.ref 0, .int y1]) (st' := [.int 1]) (h' := mw φ) rfl ?_
      have hs := Option.some.inj hs
      subst hs
      exact qr_r hC rfl rfl
  · rw [if_neg hc] at hs
    refine qr_s hC (n := 2) (pc' := 66) (ls' := [.ref 0, .int y1]) (st' := [.int 0]) (h' := mw φ) rfl ?_
    have hs := Option.some.inj hs
    subst hs
    exact qr_r hC rfl rfl
/-- SketchFillerModel.setsHere(I)Z -/
def mo_setsHere (F : Nat) (φ : qm_F) (x1 : Int32) : Option (Int32 × qm_F) :=
  qb1 (mo_at F φ x1) fun y1 =>
  qb1 (mo_setHere F φ) fun y2 =>
  qg (qm_in (y1 + 1) 288) <|
  qb1 (mo_steps F (qm_u φ 6 ((y1 + 1).toNatClampNeg) y2)) fun φ1 =>
  qb2 (mo_takesSign F φ1 61) fun y3 φ2 =>
  if y3 = 0 then
    some (0, φ2)
  else
    qb2 (mo_eOf F φ2 x1) fun y4 φ3 =>
    if y4 = 0 then
      some (0, φ3)
    else
      qb2 (mo_takesSign F φ3 59) fun y5 φ4 =>
      if y5 = 0 then
        some (0, φ4)
      else
        some (1, φ4)
set_option maxRecDepth 100000 in
theorem mo_setsHere_n (F d : Nat) (φ : qm_F) (x1 : Int32) (r : (Int32 × qm_F)) (hd : 85 ≤ d) (hs : mo_setsHere F φ x1 = some r) : qm_Rn d 64 0 [.ref 0, .int x1] [] (mw φ) (some (.int r.1), mw r.2) := by
  obtain ⟨d, rfl⟩ : ∃ e, d = e + 1 := ⟨d - 1, by omega⟩
  have hC := qC_64
  unfold mo_setsHere at hs
  refine qr_s hC (n := 4) (pc' := 6) (ls' := [.ref 0, .int x1]) (st' := [.int x1, .ref 0, .ref 6]) (h' := mw φ) rfl ?_
  obtain ⟨y1, hy, hs⟩ := qb1_s hs
  refine qr_c (j := 55) (as := [.ref 0, .int x1]) (rest := [.ref 6]) (v := some (.int y1)) (h1 := mw φ) hC rfl rfl qC_55 rfl rfl (mo_at_n F d φ x1 _ (by omega) hy) ?_
  show qm_Rn (d + 1) 64 9 [.ref 0, .int x1] [.int y1, .ref 6] (mw φ) _
  refine qr_s hC (n := 3) (pc' := 12) (ls' := [.ref 0, .int x1]) (st' := [.ref 0, .int (y1 + 1), .ref 6]) (h' := mw φ) rfl ?_
  obtain ⟨y2, hy, hs⟩ := qb1_s hs
  refine qr_c (j := 59) (as := [.ref 0]) (rest := [.int (y1 + 1), .ref 6]) (v := some (.int y2)) (h1 := mw φ) hC rfl rfl qC_59 rfl rfl (mo_setHere_n F d φ _ (by omega) hy) ?_
  show qm_Rn (d + 1) 64 15 [.ref 0, .int x1] [.int y2, .int (y1 + 1), .ref 6] (mw φ) _
  obtain ⟨hq, hs⟩ := qg_s hs
  refine qr_is (h' := mw (qm_u φ 6 ((y1 + 1).toNatClampNeg) y2)) hC rfl rfl hq rfl ?_
  refine qr_s hC (n := 1) (pc' := 17) (ls' := [.ref 0, .int x1]) (st' := [.ref 0]) (h' := mw (qm_u φ 6 ((y1 + 1).toNatClampNeg) y2)) rfl ?_
  obtain ⟨φ1, hy, hs⟩ := qb1_s hs
  refine qr_c (j := 36) (as := [.ref 0]) (rest := []) (v := none) (h1 := mw φ1) hC rfl rfl qC_36 rfl rfl (mo_steps_n F d (qm_u φ 6 ((y1 + 1).toNatClampNeg) y2) _ (by omega) hy) ?_
  show qm_Rn (d + 1) 64 20 [.ref 0, .int x1] [] (mw φ1) _
  refine qr_s hC (n := 2) (pc' := 23) (ls' := [.ref 0, .int x1]) (st' := [.int 61, .ref 0]) (h' := mw φ1) rfl ?_
  obtain ⟨y3, φ2, hy, hs⟩ := qb2_s hs
  refine qr_c (j := 42) (as := [.ref 0, .int 61]) (rest := []) (v := some (.int y3)) (h1 := mw φ2) hC rfl rfl qC_42 rfl rfl (mo_takesSign_n F d φ1 61 _ (by omega) hy) ?_
  show qm_Rn (d + 1) 64 26 [.ref 0, .int x1] [.int y3] (mw φ2) _
  refine qr_eq1 (tgt := 50) hC rfl (by decide) rfl (fun hc => ?_) (fun hc => ?_)
  · rw [if_pos hc] at hs
    refine qr_s hC (n := 1) (pc' := 51) (ls' := [.ref 0, .int x1]) (st' := [.int 0]) (h' := mw φ2) rfl ?_
    have hs := Option.some.inj hs
    subst hs
    exact qr_r hC rfl rfl
  · rw [if_neg hc] at hs
    refine qr_s hC (n := 2) (pc' := 31) (ls' := [.ref 0, .int x1]) (st' := [.int x1, .ref 0]) (h' := mw φ2) rfl ?_
    obtain ⟨y4, φ3, hy, hs⟩ := qb2_s hs
    refine qr_c (j := 56) (as := [.ref 0, .int x1]) (rest := []) (v := some (.int y4)) (h1 := mw φ3) hC rfl rfl qC_56 rfl rfl (mo_eOf_n F d φ2 x1 _ (by omega) hy) ?_
    show qm_Rn (d + 1) 64 34 [.ref 0, .int x1] [.int y4] (mw φ3) _
    refine qr_eq1 (tgt := 50) hC rfl (by decide) rfl (fun hc => ?_) (fun hc => ?_)
    · rw [if_pos hc] at hs
      refine qr_s hC (n := 1) (pc' := 51) (ls' := [.ref 0, .int x1]) (st' := [.int 0]) (h' := mw φ3) rfl ?_
      have hs := Option.some.inj hs
      subst hs
      exact qr_r hC rfl rfl
    · rw [if_neg hc] at hs
      refine qr_s hC (n := 2) (pc' := 40) (ls' := [.ref 0, .int x1]) (st' := [.int 59, .ref 0]) (h' := mw φ3) rfl ?_
      obtain ⟨y5, φ4, hy, hs⟩ := qb2_s hs
      refine qr_c (j := 42) (as := [.ref 0, .int 59]) (rest := []) (v := some (.int y5)) (h1 := mw φ4) hC rfl rfl qC_42 rfl rfl (mo_takesSign_n F d φ3 59 _ (by omega) hy) ?_
      show qm_Rn (d + 1) 64 43 [.ref 0, .int x1] [.int y5] (mw φ4) _
      refine qr_eq1 (tgt := 50) hC rfl (by decide) rfl (fun hc => ?_) (fun hc => ?_)
      · rw [if_pos hc] at hs
        refine qr_s hC (n := 1) (pc' := 51) (ls' := [.ref 0, .int x1]) (st' := [.int 0]) (h' := mw φ4) rfl ?_
        have hs := Option.some.inj hs
        subst hs
        exact qr_r hC rfl rfl
      · rw [if_neg hc] at hs
        refine qr_s hC (n := 2) (pc' := 51) (ls' := [.ref 0, .int x1]) (st' := [.int 1]) (h' := mw φ4) rfl ?_
        have hs := Option.some.inj hs
        subst hs
        exact qr_r hC rfl rfl
/-- SketchFillerModel.mustHere(I)Z -/
def mo_mustHere (F : Nat) (φ : qm_F) (x1 : Int32) : Option (Int32 × qm_F) :=
  qb1 (mo_steps F φ) fun φ1 =>
  qb2 (mo_eOf F φ1 x1) fun y1 φ2 =>
  if y1 = 0 then
    some (0, φ2)
  else
    qb2 (mo_takesSign F φ2 59) fun y2 φ3 =>
    if y2 = 0 then
      some (0, φ3)
    else
      some (1, φ3)
set_option maxRecDepth 100000 in
theorem mo_mustHere_n (F d : Nat) (φ : qm_F) (x1 : Int32) (r : (Int32 × qm_F)) (hd : 85 ≤ d) (hs : mo_mustHere F φ x1 = some r) : qm_Rn d 65 0 [.ref 0, .int x1] [] (mw φ) (some (.int r.1), mw r.2) := by
  obtain ⟨d, rfl⟩ : ∃ e, d = e + 1 := ⟨d - 1, by omega⟩
  have hC := qC_65
  unfold mo_mustHere at hs
  refine qr_s hC (n := 1) (pc' := 1) (ls' := [.ref 0, .int x1]) (st' := [.ref 0]) (h' := mw φ) rfl ?_
  obtain ⟨φ1, hy, hs⟩ := qb1_s hs
  refine qr_c (j := 36) (as := [.ref 0]) (rest := []) (v := none) (h1 := mw φ1) hC rfl rfl qC_36 rfl rfl (mo_steps_n F d φ _ (by omega) hy) ?_
  show qm_Rn (d + 1) 65 4 [.ref 0, .int x1] [] (mw φ1) _
  refine qr_s hC (n := 2) (pc' := 6) (ls' := [.ref 0, .int x1]) (st' := [.int x1, .ref 0]) (h' := mw φ1) rfl ?_
  obtain ⟨y1, φ2, hy, hs⟩ := qb2_s hs
  refine qr_c (j := 56) (as := [.ref 0, .int x1]) (rest := []) (v := some (.int y1)) (h1 := mw φ2) hC rfl rfl qC_56 rfl rfl (mo_eOf_n F d φ1 x1 _ (by omega) hy) ?_
  show qm_Rn (d + 1) 65 9 [.ref 0, .int x1] [.int y1] (mw φ2) _
  refine qr_eq1 (tgt := 25) hC rfl (by decide) rfl (fun hc => ?_) (fun hc => ?_)
  · rw [if_pos hc] at hs
    refine qr_s hC (n := 1) (pc' := 26) (ls' := [.ref 0, .int x1]) (st' := [.int 0]) (h' := mw φ2) rfl ?_
    have hs := Option.some.inj hs
    subst hs
    exact qr_r hC rfl rfl
  · rw [if_neg hc] at hs
    refine qr_s hC (n := 2) (pc' := 15) (ls' := [.ref 0, .int x1]) (st' := [.int 59, .ref 0]) (h' := mw φ2) rfl ?_
    obtain ⟨y2, φ3, hy, hs⟩ := qb2_s hs
    refine qr_c (j := 42) (as := [.ref 0, .int 59]) (rest := []) (v := some (.int y2)) (h1 := mw φ3) hC rfl rfl qC_42 rfl rfl (mo_takesSign_n F d φ2 59 _ (by omega) hy) ?_
    show qm_Rn (d + 1) 65 18 [.ref 0, .int x1] [.int y2] (mw φ3) _
    refine qr_eq1 (tgt := 25) hC rfl (by decide) rfl (fun hc => ?_) (fun hc => ?_)
    · rw [if_pos hc] at hs
      refine qr_s hC (n := 1) (pc' := 26) (ls' := [.ref 0, .int x1]) (st' := [.int 0]) (h' := mw φ3) rfl ?_
      have hs := Option.some.inj hs
      subst hs
      exact qr_r hC rfl rfl
    · rw [if_neg hc] at hs
      refine qr_s hC (n := 2) (pc' := 26) (ls' := [.ref 0, .int x1]) (st' := [.int 1]) (h' := mw φ3) rfl ?_
      have hs := Option.some.inj hs
      subst hs
      exact qr_r hC rfl rfl
/-- SketchFillerModel.newName()Z -/
def mo_newName_L29 (F : Nat) (φ : qm_F) (s0 : Int32) : Option (Int32 × qm_F) :=
  qb2 (mo_must F φ s0 3) fun y1 φ1 =>
  if y1 = 0 then
    some (0, φ1)
  else
    some (1, φ1)
def mo_newName (F : Nat) (φ : qm_F) : Option (Int32 × qm_F) :=
  qb1 (mo_isName F φ) fun y1 =>
  qb2 (mo_must F φ y1 1) fun y2 φ1 =>
  if y2 = 0 then
    some (0, φ1)
  else
    qb1 (mo_slotOf F φ1 (φ1 0 8)) fun y3 =>
    if 0 ≤ y3 then
      mo_newName_L29 F φ1 0
    else
      mo_newName_L29 F φ1 1
set_option maxRecDepth 100000 in
theorem mo_newName_L29_n (F d : Nat) (hd : 3 ≤ d) (φ : qm_F) (s0 : Int32) (r : (Int32 × qm_F)) (hs : mo_newName_L29 F φ s0 = some r) : qm_Rn d 60 29 [.retAddr 0] [.int s0, .ref 0] (mw φ) (some (.int r.1), mw r.2) := by
  obtain ⟨d, rfl⟩ : ∃ e, d = e + 1 := ⟨d - 1, by omega⟩
  have hC := qC_60
  unfold mo_newName_L29 at hs
  refine qr_s hC (n := 1) (pc' := 30) (ls' := [.retAddr 0]) (st' := [.int 3, .int s0, .ref 0]) (h' := mw φ) rfl ?_
  obtain ⟨y1, φ1, hy, hs⟩ := qb2_s hs
  refine qr_c (j := 37) (as := [.ref 0, .int s0, .int 3]) (rest := []) (v := some (.int y1)) (h1 := mw φ1) hC rfl rfl qC_37 rfl rfl (mo_must_n F d φ s0 3 _ (by omega) hy) ?_
  show qm_Rn (d + 1) 60 33 [.retAddr 0] [.int y1] (mw φ1) _
  refine qr_eq1 (tgt := 40) hC rfl (by decide) rfl (fun hc => ?_) (fun hc => ?_)
  · rw [if_pos hc] at hs
    refine qr_s hC (n := 1) (pc' := 41) (ls' := [.retAddr 0]) (st' := [.int 0]) (h' := mw φ1) rfl ?_
    have hs := Option.some.inj hs
    subst hs
    exact qr_r hC rfl rfl
  · rw [if_neg hc] at hs
    refine qr_s hC (n := 2) (pc' := 41) (ls' := [.retAddr 0]) (st' := [.int 1]) (h' := mw φ1) rfl ?_
    have hs := Option.some.inj hs
    subst hs
    exact qr_r hC rfl rfl
set_option maxRecDepth 100000 in
theorem mo_newName_n (F d : Nat) (φ : qm_F) (r : (Int32 × qm_F)) (hd : 3 ≤ d) (hs : mo_newName F φ = some r) : qm_Rn d 60 0 [.ref 0] [] (mw φ) (some (.int r.1), mw r.2) := by
  obtain ⟨d, rfl⟩ : ∃ e, d = e + 1 := ⟨d - 1, by omega⟩
  have hC := qC_60
  unfold mo_newName at hs
  refine qr_s hC (n := 2) (pc' := 2) (ls' := [.ref 0]) (st' := [.ref 0, .ref 0]) (h' := mw φ) rfl ?_
  obtain ⟨y1, hy, hs⟩ := qb1_s hs
  refine qr_c (j := 41) (as := [.ref 0]) (rest := [.ref 0]) (v := some (.int y1)) (h1 := mw φ) hC rfl rfl qC_41 rfl rfl (mo_isName_n F d φ _ (by omega) hy) ?_
  show qm_Rn (d + 1) 60 5 [.ref 0] [.int y1, .ref 0] (mw φ) _
  refine qr_s hC (n := 1) (pc' := 6) (ls' := [.ref 0]) (st' := [.int 1, .int y1, .ref 0]) (h' := mw φ) rfl ?_
  obtain ⟨y2, φ1, hy, hs⟩ := qb2_s hs
  refine qr_c (j := 37) (as := [.ref 0, .int y1, .int 1]) (rest := []) (v := some (.int y2)) (h1 := mw φ1) hC rfl rfl qC_37 rfl rfl (mo_must_n F d φ y1 1 _ (by omega) hy) ?_
  show qm_Rn (d + 1) 60 9 [.ref 0] [.int y2] (mw φ1) _
  refine qr_eq1 (tgt := 40) hC rfl (by decide) rfl (fun hc => ?_) (fun hc => ?_)
  · rw [if_pos hc] at hs
    refine qr_s hC (n := 1) (pc' := 41) (ls' := [.ref 0]) (st' := [.int 0]) (h' := mw φ1) rfl ?_
    have hs := Option.some.inj hs
    subst hs
    exact qr_r hC rfl rfl
  · rw [if_neg hc] at hs
    refine qr_s hC (n := 4) (pc' := 18) (ls' := [.ref 0]) (st' := [.int (φ1 0 8), .ref 0, .ref 0]) (h' := mw φ1) rfl ?_
    obtain ⟨y3, hy, hs⟩ := qb1_s hs
    refine qr_c (j := 47) (as := [.ref 0, .int (φ1 0 8)]) (rest := [.ref 0]) (v := some (.int y3)) (h1 := mw φ1) hC rfl rfl qC_47 rfl rfl (mo_slotOf_n F d φ1 (φ1 0 8) _ (by omega) hy) ?_
    show qm_Rn (d + 1) 60 21 [.ref 0] [.int y3, .ref 0] (mw φ1) _
    refine qr_ge1 (tgt := 28) hC rfl (by decide) rfl (fun hc => ?_) (fun hc => ?_)
    · rw [if_pos hc] at hs
      refine qr_s hC (n := 1) (pc' := 29) (ls' := [.ref 0]) (st' := [.int 0, .ref 0]) (h' := mw φ1) rfl ?_
      exact qr_w (a := [.retAddr 0]) ⟨Or.inl rfl, trivial⟩ (mo_newName_L29_n F (d + 1) (by omega) φ1 0 _ hs)
    · rw [if_neg hc] at hs
      refine qr_s hC (n := 2) (pc' := 29) (ls' := [.ref 0]) (st' := [.int 1, .ref 0]) (h' := mw φ1) rfl ?_
      exact qr_w (a := [.retAddr 0]) ⟨Or.inl rfl, trivial⟩ (mo_newName_L29_n F (d + 1) (by omega) φ1 1 _ hs)
/-- SketchFillerModel.numbered(I)Z -/
def mo_numbered (F : Nat) (φ : qm_F) (x1 : Int32) : Option (Int32 × qm_F) :=
  qb2 (mo_takesNumber F φ 1 9) fun y1 φ1 =>
  if ¬ y1 = 0 then
    qb1 (mo_at F φ1 x1) fun y2 =>
    qg (qm_in (y2 + 1) 288) <|
    some (1, (qm_u φ1 6 ((y2 + 1).toNatClampNeg) (φ1 0 11)))
  else
    some (0, φ1)
set_option maxRecDepth 100000 in
theorem mo_numbered_n (F d : Nat) (φ : qm_F) (x1 : Int32) (r : (Int32 × qm_F)) (hd : 3 ≤ d) (hs : mo_numbered F φ x1 = some r) : qm_Rn d 58 0 [.ref 0, .int x1] [] (mw φ) (some (.int r.1), mw r.2) := by
  obtain ⟨d, rfl⟩ : ∃ e, d = e + 1 := ⟨d - 1, by omega⟩
  have hC := qC_58
  unfold mo_numbered at hs
  refine qr_s hC (n := 3) (pc' := 4) (ls' := [.ref 0, .int x1]) (st' := [.int 9, .int 1, .ref 0]) (h' := mw φ) rfl ?_
  obtain ⟨y1, φ1, hy, hs⟩ := qb2_s hs
  refine qr_c (j := 44) (as := [.ref 0, .int 1, .int 9]) (rest := []) (v := some (.int y1)) (h1 := mw φ1) hC rfl rfl qC_44 rfl rfl (mo_takesNumber_n F d φ 1 9 _ (by omega) hy) ?_
  show qm_Rn (d + 1) 58 7 [.ref 0, .int x1] [.int y1] (mw φ1) _
  refine qr_ne1 (tgt := 12) hC rfl (by decide) rfl (fun hc => ?_) (fun hc => ?_)
  · rw [if_pos hc] at hs
    refine qr_s hC (n := 4) (pc' := 18) (ls' := [.ref 0, .int x1]) (st' := [.int x1, .ref 0, .ref 6]) (h' := mw φ1) rfl ?_
    obtain ⟨y2, hy, hs⟩ := qb1_s hs
    refine qr_c (j := 55) (as := [.ref 0, .int x1]) (rest := [.ref 6]) (v := some (.int y2)) (h1 := mw φ1) hC rfl rfl qC_55 rfl rfl (mo_at_n F d φ1 x1 _ (by omega) hy) ?_
    show qm_Rn (d + 1) 58 21 [.ref 0, .int x1] [.int y2, .ref 6] (mw φ1) _
    refine qr_s hC (n := 4) (pc' := 27) (ls' := [.ref 0, .int x1]) (st' := [.int (φ1 0 11), .int (y2 + 1), .ref 6]) (h' := mw φ1) rfl ?_
    obtain ⟨hq, hs⟩ := qg_s hs
    refine qr_is (h' := mw (qm_u φ1 6 ((y2 + 1).toNatClampNeg) (φ1 0 11))) hC rfl rfl hq rfl ?_
    refine qr_s hC (n := 1) (pc' := 29) (ls' := [.ref 0, .int x1]) (st' := [.int 1]) (h' := mw (qm_u φ1 6 ((y2 + 1).toNatClampNeg) (φ1 0 11))) rfl ?_
    have hs := Option.some.inj hs
    subst hs
    exact qr_r hC rfl rfl
  · rw [if_neg hc] at hs
    refine qr_s hC (n := 1) (pc' := 11) (ls' := [.ref 0, .int x1]) (st' := [.int 0]) (h' := mw φ1) rfl ?_
    have hs := Option.some.inj hs
    subst hs
    exact qr_r hC rfl rfl
def mg_S_ok (d t : Nat) (φ : qm_F) (a b : Int32) (r : Int32 × qm_F) : Prop :=
  if t = 0 then qm_Rn d 57 0 [.ref 0] [] (mw φ) (some (.int r.1), mw r.2) else
  if t = 1 then qm_Rn d 69 0 [.ref 0, .retAddr 0, .retAddr 0] [] (mw φ) (some (.int r.1), mw r.2) else
  if t = 2 then qm_Rn d 67 0 [.ref 0, .int a, .int b] [] (mw φ) (some (.int r.1), mw r.2) else
  if t = 3 then qm_Rn d 61 0 [.ref 0, .int a, .retAddr 0] [] (mw φ) (some (.int r.1), mw r.2) else
  if t = 4 then qm_Rn d 62 0 [.ref 0, .int a] [] (mw φ) (some (.int r.1), mw r.2) else
  if t = 5 then qm_Rn d 63 0 [.ref 0, .int a] [] (mw φ) (some (.int r.1), mw r.2) else
  qm_Rn d 66 0 [.ref 0, .int a] [] (mw φ) (some (.int r.1), mw r.2)

/-- SketchFillerModel.block()Z -/
def mo_block_L51 (F : Nat) (g : Nat → qm_F → Int32 → Int32 → Option (Int32 × qm_F)) : Nat → qm_F → Option (Int32 × qm_F)
  | 0, _ => none
  | n + 1, φ =>
    qb1 (mo_isSign F φ 125) fun y1 =>
    if ¬ y1 = 0 then
      qb1 (mo_steps F φ) fun φ1 =>
      some (1, (qm_u φ1 0 29 ((φ1 0 29) - 1)))
    else
      qb2 (g 1 φ 0 0) fun y2 φ2 =>
      if ¬ y2 = 0 then
        mo_block_L51 F g n φ2
      else
        some (0, φ2)
def mo_block_L28 (F : Nat) (g : Nat → qm_F → Int32 → Int32 → Option (Int32 × qm_F)) (φ : qm_F) (s0 : Int32) : Option (Int32 × qm_F) :=
  qb2 (mo_must F φ s0 5) fun y1 φ1 =>
  if ¬ y1 = 0 then
    qb1 (mo_steps F (qm_u φ1 0 29 ((φ1 0 29) + 1))) fun φ2 =>
    mo_block_L51 F g F φ2
  else
    some (0, φ1)
def mo_block (F : Nat) (g : Nat → qm_F → Int32 → Int32 → Option (Int32 × qm_F)) (φ : qm_F) : Option (Int32 × qm_F) :=
  qb1 (mo_isSign F φ 123) fun y1 =>
  qb2 (mo_must F φ y1 1) fun y2 φ1 =>
  if y2 = 0 then
    some (0, φ1)
  else
    if 4 ≤ (φ1 0 29) then
      mo_block_L28 F g φ1 0
    else
      mo_block_L28 F g φ1 1
set_option maxRecDepth 100000 in
theorem mo_block_L51_n (F d : Nat) (g : Nat → qm_F → Int32 → Int32 → Option (Int32 × qm_F)) (hg : ∀ t φ a b r, g t φ a b = some r → mg_S_ok (d - 1) t φ a b r) (hd : 86 ≤ d) : ∀ (n : Nat) (φ : qm_F) (r : (Int32 × qm_F)), mo_block_L51 F g n φ = some r → qm_Rn d 57 51 [.ref 0] [] (mw φ) (some (.int r.1), mw r.2) := by
  obtain ⟨d, rfl⟩ : ∃ e, d = e + 1 := ⟨d - 1, by omega⟩
  simp only [Nat.add_sub_cancel] at hg
  have hC := qC_57
  intro n
  induction n with
  | zero => intro φ r hs; simp [mo_block_L51] at hs
  | succ n ih =>
    intro φ r hs
    rw [mo_block_L51] at hs
    refine qr_s hC (n := 2) (pc' := 54) (ls' := [.ref 0]) (st' := [.int 125, .ref 0]) (h' := mw φ) rfl ?_
    obtain ⟨y1, hy, hs⟩ := qb1_s hs
    refine qr_c (j := 38) (as := [.ref 0, .int 125]) (rest := []) (v := some (.int y1)) (h1 := mw φ) hC rfl rfl qC_38 rfl rfl (mo_isSign_n F d φ 125 _ (by omega) hy) ?_
    show qm_Rn (d + 1) 57 57 [.ref 0] [.int y1] (mw φ) _
    refine qr_ne1 (tgt := 69) hC rfl (by decide) rfl (fun hc => ?_) (fun hc => ?_)
    · rw [if_pos hc] at hs
      refine qr_s hC (n := 1) (pc' := 70) (ls' := [.ref 0]) (st' := [.ref 0]) (h' := mw φ) rfl ?_
      obtain ⟨φ1, hy, hs⟩ := qb1_s hs
      refine qr_c (j := 36) (as := [.ref 0]) (rest := []) (v := none) (h1 := mw φ1) hC rfl rfl qC_36 rfl rfl (mo_steps_n F d φ _ (by omega) hy) ?_
      show qm_Rn (d + 1) 57 73 [.ref 0] [] (mw φ1) _
      refine qr_s hC (n := 7) (pc' := 84) (ls' := [.ref 0]) (st' := [.int 1]) (h' := mw (qm_u φ1 0 29 ((φ1 0 29) - 1))) rfl ?_
      have hs := Option.some.inj hs
      subst hs
      exact qr_r hC rfl rfl
    · rw [if_neg hc] at hs
      refine qr_s hC (n := 1) (pc' := 61) (ls' := [.ref 0]) (st' := [.ref 0]) (h' := mw φ) rfl ?_
      obtain ⟨y2, φ2, hy, hs⟩ := qb2_s hs
      refine qr_c (j := 69) (as := [.ref 0]) (rest := []) (v := some (.int y2)) (h1 := mw φ2) hC rfl rfl qC_69 rfl rfl (hg 1 φ 0 0 _ hy) ?_
      show qm_Rn (d + 1) 57 64 [.ref 0] [.int y2] (mw φ2) _
      refine qr_ne1 (tgt := 51) hC rfl (by decide) rfl (fun hc => ?_) (fun hc => ?_)
      · rw [if_pos hc] at hs
        exact ih φ2 _ hs
      · rw [if_neg hc] at hs
        refine qr_s hC (n := 1) (pc' := 68) (ls' := [.ref 0]) (st' := [.int 0]) (h' := mw φ2) rfl ?_
        have hs := Option.some.inj hs
        subst hs
        exact qr_r hC rfl rfl
set_option maxRecDepth 100000 in
theorem mo_block_L28_n (F d : Nat) (g : Nat → qm_F → Int32 → Int32 → Option (Int32 × qm_F)) (hg : ∀ t φ a b r, g t φ a b = some r → mg_S_ok (d - 1) t φ a b r) (hd : 86 ≤ d) (φ : qm_F) (s0 : Int32) (r : (Int32 × qm_F)) (hs : mo_block_L28 F g φ s0 = some r) : qm_Rn d 57 28 [.ref 0] [.int s0, .ref 0] (mw φ) (some (.int r.1), mw r.2) := by
  obtain ⟨d, rfl⟩ : ∃ e, d = e + 1 := ⟨d - 1, by omega⟩
  simp only [Nat.add_sub_cancel] at hg
  have hC := qC_57
  unfold mo_block_L28 at hs
  refine qr_s hC (n := 1) (pc' := 29) (ls' := [.ref 0]) (st' := [.int 5, .int s0, .ref 0]) (h' := mw φ) rfl ?_
  obtain ⟨y1, φ1, hy, hs⟩ := qb2_s hs
  refine qr_c (j := 37) (as := [.ref 0, .int s0, .int 5]) (rest := []) (v := some (.int y1)) (h1 := mw φ1) hC rfl rfl qC_37 rfl rfl (mo_must_n F d φ s0 5 _ (by omega) hy) ?_
  show qm_Rn (d + 1) 57 32 [.ref 0] [.int y1] (mw φ1) _
  refine qr_ne1 (tgt := 37) hC rfl (by decide) rfl (fun hc => ?_) (fun hc => ?_)
  · rw [if_pos hc] at hs
    refine qr_s hC (n := 7) (pc' := 48) (ls' := [.ref 0]) (st' := [.ref 0]) (h' := mw (qm_u φ1 0 29 ((φ1 0 29) + 1))) rfl ?_
    obtain ⟨φ2, hy, hs⟩ := qb1_s hs
    refine qr_c (j := 36) (as := [.ref 0]) (rest := []) (v := none) (h1 := mw φ2) hC rfl rfl qC_36 rfl rfl (mo_steps_n F d (qm_u φ1 0 29 ((φ1 0 29) + 1)) _ (by omega) hy) ?_
    show qm_Rn (d + 1) 57 51 [.ref 0] [] (mw φ2) _
    exact mo_block_L51_n F (d + 1) g hg (by omega) F φ2 _ hs
  · rw [if_neg hc] at hs
    refine qr_s hC (n := 1) (pc' := 36) (ls' := [.ref 0]) (st' := [.int 0]) (h' := mw φ1) rfl ?_
    have hs := Option.some.inj hs
    subst hs
    exact qr_r hC rfl rfl
set_option maxRecDepth 100000 in
theorem mo_block_n (F d : Nat) (g : Nat → qm_F → Int32 → Int32 → Option (Int32 × qm_F)) (hg : ∀ t φ a b r, g t φ a b = some r → mg_S_ok (d - 1) t φ a b r) (hd : 86 ≤ d) (φ : qm_F) (r : (Int32 × qm_F)) (hs : mo_block F g φ = some r) : qm_Rn d 57 0 [.ref 0] [] (mw φ) (some (.int r.1), mw r.2) := by
  obtain ⟨d, rfl⟩ : ∃ e, d = e + 1 := ⟨d - 1, by omega⟩
  simp only [Nat.add_sub_cancel] at hg
  have hC := qC_57
  unfold mo_block at hs
  refine qr_s hC (n := 3) (pc' := 4) (ls' := [.ref 0]) (st' := [.int 123, .ref 0, .ref 0]) (h' := mw φ) rfl ?_
  obtain ⟨y1, hy, hs⟩ := qb1_s hs
  refine qr_c (j := 38) (as := [.ref 0, .int 123]) (rest := [.ref 0]) (v := some (.int y1)) (h1 := mw φ) hC rfl rfl qC_38 rfl rfl (mo_isSign_n F d φ 123 _ (by omega) hy) ?_
  show qm_Rn (d + 1) 57 7 [.ref 0] [.int y1, .ref 0] (mw φ) _
  refine qr_s hC (n := 1) (pc' := 8) (ls' := [.ref 0]) (st' := [.int 1, .int y1, .ref 0]) (h' := mw φ) rfl ?_
  obtain ⟨y2, φ1, hy, hs⟩ := qb2_s hs
  refine qr_c (j := 37) (as := [.ref 0, .int y1, .int 1]) (rest := []) (v := some (.int y2)) (h1 := mw φ1) hC rfl rfl qC_37 rfl rfl (mo_must_n F d φ y1 1 _ (by omega) hy) ?_
  show qm_Rn (d + 1) 57 11 [.ref 0] [.int y2] (mw φ1) _
  refine qr_eq1 (tgt := 35) hC rfl (by decide) rfl (fun hc => ?_) (fun hc => ?_)
  · rw [if_pos hc] at hs
    refine qr_s hC (n := 1) (pc' := 36) (ls' := [.ref 0]) (st' := [.int 0]) (h' := mw φ1) rfl ?_
    have hs := Option.some.inj hs
    subst hs
    exact qr_r hC rfl rfl
  · rw [if_neg hc] at hs
    refine qr_s hC (n := 4) (pc' := 20) (ls' := [.ref 0]) (st' := [.int 4, .int (φ1 0 29), .ref 0]) (h' := mw φ1) rfl ?_
    refine qr_ge2 (tgt := 27) hC rfl (by decide) rfl (fun hc => ?_) (fun hc => ?_)
    · rw [if_pos hc] at hs
      refine qr_s hC (n := 1) (pc' := 28) (ls' := [.ref 0]) (st' := [.int 0, .ref 0]) (h' := mw φ1) rfl ?_
      exact mo_block_L28_n F (d + 1) g hg (by omega) φ1 0 _ hs
    · rw [if_neg hc] at hs
      refine qr_s hC (n := 2) (pc' := 28) (ls' := [.ref 0]) (st' := [.int 1, .ref 0]) (h' := mw φ1) rfl ?_
      exact mo_block_L28_n F (d + 1) g hg (by omega) φ1 1 _ hs

/-- SketchFillerModel.statementHere()Z -/
def mo_statementHere_L155 (F : Nat) (g : Nat → qm_F → Int32 → Int32 → Option (Int32 × qm_F)) (φ : qm_F) (x2 : Int32) : Option (Int32 × qm_F) :=
  qb1 (mo_at F φ x2) fun y1 =>
  qb1 (mo_had F φ 4) fun y2 =>
  qg (qm_in (y1 + 5) 288) <|
  some (1, (qm_u φ 6 ((y1 + 5).toNatClampNeg) y2))
def mo_statementHere_L81 (F : Nat) (g : Nat → qm_F → Int32 → Int32 → Option (Int32 × qm_F)) (φ : qm_F) (x1 : Int32) (x2 : Int32) (s0 : Int32) : Option (Int32 × qm_F) :=
  qb2 (mo_must F φ s0 5) fun y1 φ1 =>
  if ¬ y1 = 0 then
    qb1 (mo_tells F φ1 4 (x2 + 1)) fun φ2 =>
    qb1 (mo_at F φ2 x2) fun y2 =>
    qg (qm_in y2 288) <|
    qb1 (mo_at F (qm_u φ2 6 y2.toNatClampNeg x1) x2) fun y3 =>
    qg (qm_in (y3 + 4) 288) <|
    qb2 (g 2 (qm_u (qm_u φ2 6 y2.toNatClampNeg x1) 6 ((y3 + 4).toNatClampNeg) 0) x1 x2) fun y4 φ3 =>
    if ¬ y4 = 0 then
      if x1 = 2 then
        mo_statementHere_L155 F g φ3 x2
      else
        qb1 (mo_at F φ3 x2) fun y5 =>
        qb1 (mo_had F φ3 4) fun y6 =>
        qg (qm_in (y5 + 4) 288) <|
        mo_statementHere_L155 F g (qm_u φ3 6 ((y5 + 4).toNatClampNeg) y6) x2
    else
      some (0, φ3)
  else
    some (0, φ1)
def mo_statementHere_L76 (F : Nat) (g : Nat → qm_F → Int32 → Int32 → Option (Int32 × qm_F)) (φ : qm_F) (x1 : Int32) (x2 : Int32) : Option (Int32 × qm_F) :=
  mo_statementHere_L81 F g φ x1 x2 1
def mo_statementHere_L80 (F : Nat) (g : Nat → qm_F → Int32 → Int32 → Option (Int32 × qm_F)) (φ : qm_F) (x1 : Int32) (x2 : Int32) : Option (Int32 × qm_F) :=
  mo_statementHere_L81 F g φ x1 x2 0
def mo_statementHere_L50 (F : Nat) (g : Nat → qm_F → Int32 → Int32 → Option (Int32 × qm_F)) (φ : qm_F) (x1 : Int32) : Option (Int32 × qm_F) :=
  qb1 (mo_had F φ 4) fun y1 =>
  if 24 ≤ y1 then
    mo_statementHere_L80 F g φ x1 y1
  else
    if ¬ x1 = 5 then
      mo_statementHere_L76 F g φ x1 y1
    else
      if 3 ≤ (φ 0 30) then
        mo_statementHere_L80 F g φ x1 y1
      else
        mo_statementHere_L76 F g φ x1 y1
def mo_statementHere_L41 (F : Nat) (g : Nat → qm_F → Int32 → Int32 → Option (Int32 × qm_F)) (φ : qm_F) (x1 : Int32) (s0 : Int32) : Option (Int32 × qm_F) :=
  qb2 (mo_must F φ s0 2) fun y1 φ1 =>
  if ¬ y1 = 0 then
    mo_statementHere_L50 F g φ1 x1
  else
    some (0, φ1)
def mo_statementHere_L15 (F : Nat) (g : Nat → qm_F → Int32 → Int32 → Option (Int32 × qm_F)) (φ : qm_F) (x1 : Int32) (s0 : Int32) : Option (Int32 × qm_F) :=
  qb2 (mo_must F φ s0 1) fun y1 φ1 =>
  if ¬ y1 = 0 then
    if ¬ x1 = 0 then
      mo_statementHere_L50 F g φ1 x1
    else
      qb1 (mo_setHere F φ1) fun y2 =>
      if y2 < 0 then
        mo_statementHere_L41 F g φ1 x1 0
      else
        mo_statementHere_L41 F g φ1 x1 1
  else
    some (0, φ1)
def mo_statementHere (F : Nat) (g : Nat → qm_F → Int32 → Int32 → Option (Int32 × qm_F)) (φ : qm_F) : Option (Int32 × qm_F) :=
  qb1 (mo_kindHere F φ) fun y1 =>
  if y1 < 0 then
    mo_statementHere_L15 F g φ y1 0
  else
    mo_statementHere_L15 F g φ y1 1
set_option maxRecDepth 100000 in
theorem mo_statementHere_L155_n (F d : Nat) (g : Nat → qm_F → Int32 → Int32 → Option (Int32 × qm_F)) (hg : ∀ t φ a b r, g t φ a b = some r → mg_S_ok (d - 1) t φ a b r) (hd : 86 ≤ d) (φ : qm_F) (x2 : Int32) (r : (Int32 × qm_F)) (hs : mo_statementHere_L155 F g φ x2 = some r) : qm_Rn d 69 155 [.ref 0, .retAddr 0, .int x2] [] (mw φ) (some (.int r.1), mw r.2) := by
  obtain ⟨d, rfl⟩ : ∃ e, d = e + 1 := ⟨d - 1, by omega⟩
  simp only [Nat.add_sub_cancel] at hg
  have hC := qC_69
  unfold mo_statementHere_L155 at hs
  refine qr_s hC (n := 4) (pc' := 161) (ls' := [.ref 0, .retAddr 0, .int x2]) (st' := [.int x2, .ref 0, .ref 6]) (h' := mw φ) rfl ?_
  obtain ⟨y1, hy, hs⟩ := qb1_s hs
  refine qr_c (j := 55) (as := [.ref 0, .int x2]) (rest := [.ref 6]) (v := some (.int y1)) (h1 := mw φ) hC rfl rfl qC_55 rfl rfl (mo_at_n F d φ x2 _ (by omega) hy) ?_
  show qm_Rn (d + 1) 69 164 [.ref 0, .retAddr 0, .int x2] [.int y1, .ref 6] (mw φ) _
  refine qr_s hC (n := 4) (pc' := 168) (ls' := [.ref 0, .retAddr 0, .int x2]) (st' := [.int 4, .ref 0, .int (y1 + 5), .ref 6]) (h' := mw φ) rfl ?_
  obtain ⟨y2, hy, hs⟩ := qb1_s hs
  refine qr_c (j := 45) (as := [.ref 0, .int 4]) (rest := [.int (y1 + 5), .ref 6]) (v := some (.int y2)) (h1 := mw φ) hC rfl rfl qC_45 rfl rfl (mo_had_n F d φ 4 _ (by omega) hy) ?_
  show qm_Rn (d + 1) 69 171 [.ref 0, .retAddr 0, .int x2] [.int y2, .int (y1 + 5), .ref 6] (mw φ) _
  obtain ⟨hq, hs⟩ := qg_s hs
  refine qr_is (h' := mw (qm_u φ 6 ((y1 + 5).toNatClampNeg) y2)) hC rfl rfl hq rfl ?_
  refine qr_s hC (n := 1) (pc' := 173) (ls' := [.ref 0, .retAddr 0, .int x2]) (st' := [.int 1]) (h' := mw (qm_u φ 6 ((y1 + 5).toNatClampNeg) y2)) rfl ?_
  have hs := Option.some.inj hs
  subst hs
  exact qr_r hC rfl rfl
set_option maxRecDepth 100000 in
theorem mo_statementHere_L81_n (F d : Nat) (g : Nat → qm_F → Int32 → Int32 → Option (Int32 × qm_F)) (hg : ∀ t φ a b r, g t φ a b = some r → mg_S_ok (d - 1) t φ a b r) (hd : 86 ≤ d) (φ : qm_F) (x1 : Int32) (x2 : Int32) (s0 : Int32) (r : (Int32 × qm_F)) (hs : mo_statementHere_L81 F g φ x1 x2 s0 = some r) : qm_Rn d 69 81 [.ref 0, .int x1, .int x2] [.int s0, .ref 0] (mw φ) (some (.int r.1), mw r.2) := by
  obtain ⟨d, rfl⟩ : ∃ e, d = e + 1 := ⟨d - 1, by omega⟩
  simp only [Nat.add_sub_cancel] at hg
  have hC := qC_69
  unfold mo_statementHere_L81 at hs
  refine qr_s hC (n := 1) (pc' := 82) (ls' := [.ref 0, .int x1, .int x2]) (st' := [.int 5, .int s0, .ref 0]) (h' := mw φ) rfl ?_
  obtain ⟨y1, φ1, hy, hs⟩ := qb2_s hs
  refine qr_c (j := 37) (as := [.ref 0, .int s0, .int 5]) (rest := []) (v := some (.int y1)) (h1 := mw φ1) hC rfl rfl qC_37 rfl rfl (mo_must_n F d φ s0 5 _ (by omega) hy) ?_
  show qm_Rn (d + 1) 69 85 [.ref 0, .int x1, .int x2] [.int y1] (mw φ1) _
  refine qr_ne1 (tgt := 90) hC rfl (by decide) rfl (fun hc => ?_) (fun hc => ?_)
  · rw [if_pos hc] at hs
    refine qr_s hC (n := 5) (pc' := 95) (ls' := [.ref 0, .int x1, .int x2]) (st' := [.int (x2 + 1), .int 4, .ref 0]) (h' := mw φ1) rfl ?_
    obtain ⟨φ2, hy, hs⟩ := qb1_s hs
    refine qr_c (j := 46) (as := [.ref 0, .int 4, .int (x2 + 1)]) (rest := []) (v := none) (h1 := mw φ2) hC rfl rfl qC_46 rfl rfl (mo_tells_n F d φ1 4 (x2 + 1) _ (by omega) hy) ?_
    show qm_Rn (d + 1) 69 98 [.ref 0, .int x1, .int x2] [] (mw φ2) _
    refine qr_s hC (n := 4) (pc' := 104) (ls' := [.ref 0, .int x1, .int x2]) (st' := [.int x2, .ref 0, .ref 6]) (h' := mw φ2) rfl ?_
    obtain ⟨y2, hy, hs⟩ := qb1_s hs
    refine qr_c (j := 55) (as := [.ref 0, .int x2]) (rest := [.ref 6]) (v := some (.int y2)) (h1 := mw φ2) hC rfl rfl qC_55 rfl rfl (mo_at_n F d φ2 x2 _ (by omega) hy) ?_
    show qm_Rn (d + 1) 69 107 [.ref 0, .int x1, .int x2] [.int y2, .ref 6] (mw φ2) _
    refine qr_s hC (n := 1) (pc' := 108) (ls' := [.ref 0, .int x1, .int x2]) (st' := [.int x1, .int y2, .ref 6]) (h' := mw φ2) rfl ?_
    obtain ⟨hq, hs⟩ := qg_s hs
    refine qr_is (h' := mw (qm_u φ2 6 y2.toNatClampNeg x1)) hC rfl rfl hq rfl ?_
    refine qr_s hC (n := 4) (pc' := 115) (ls' := [.ref 0, .int x1, .int x2]) (st' := [.int x2, .ref 0, .ref 6]) (h' := mw (qm_u φ2 6 y2.toNatClampNeg x1)) rfl ?_
    obtain ⟨y3, hy, hs⟩ := qb1_s hs
    refine qr_c (j := 55) (as := [.ref 0, .int x2]) (rest := [.ref 6]) (v := some (.int y3)) (h1 := mw (qm_u φ2 6 y2.toNatClampNeg x1)) hC rfl rfl qC_55 rfl rfl (mo_at_n F d (qm_u φ2 6 y2.toNatClampNeg x1) x2 _ (by omega) hy) ?_
    show qm_Rn (d + 1) 69 118 [.ref 0, .int x1, .int x2] [.int y3, .ref 6] (mw (qm_u φ2 6 y2.toNatClampNeg x1)) _
    refine qr_s hC (n := 3) (pc' := 121) (ls' := [.ref 0, .int x1, .int x2]) (st' := [.int 0, .int (y3 + 4), .ref 6]) (h' := mw (qm_u φ2 6 y2.toNatClampNeg x1)) rfl ?_
    obtain ⟨hq, hs⟩ := qg_s hs
    refine qr_is (h' := mw (qm_u (qm_u φ2 6 y2.toNatClampNeg x1) 6 ((y3 + 4).toNatClampNeg) 0)) hC rfl rfl hq rfl ?_
    refine qr_s hC (n := 3) (pc' := 125) (ls' := [.ref 0, .int x1, .int x2]) (st' := [.int x2, .int x1, .ref 0]) (h' := mw (qm_u (qm_u φ2 6 y2.toNatClampNeg x1) 6 ((y3 + 4).toNatClampNeg) 0)) rfl ?_
    obtain ⟨y4, φ3, hy, hs⟩ := qb2_s hs
    refine qr_c (j := 67) (as := [.ref 0, .int x1, .int x2]) (rest := []) (v := some (.int y4)) (h1 := mw φ3) hC rfl rfl qC_67 rfl rfl (hg 2 (qm_u (qm_u φ2 6 y2.toNatClampNeg x1) 6 ((y3 + 4).toNatClampNeg) 0) x1 x2 _ hy) ?_
    show qm_Rn (d + 1) 69 128 [.ref 0, .int x1, .int x2] [.int y4] (mw φ3) _
    refine qr_ne1 (tgt := 133) hC rfl (by decide) rfl (fun hc => ?_) (fun hc => ?_)
    · rw [if_pos hc] at hs
      refine qr_s hC (n := 2) (pc' := 135) (ls' := [.ref 0, .int x1, .int x2]) (st' := [.int 2, .int x1]) (h' := mw φ3) rfl ?_
      refine qr_eq2 (tgt := 155) hC rfl (by decide) rfl (fun hc => ?_) (fun hc => ?_)
      · rw [if_pos hc] at hs
        exact qr_w (a := [.ref 0, .retAddr 0, .int x2]) ⟨Or.inr rfl, Or.inl rfl, Or.inr rfl, trivial⟩ (mo_statementHere_L155_n F (d + 1) g hg (by omega) φ3 x2 _ hs)
      · rw [if_neg hc] at hs
        refine qr_s hC (n := 4) (pc' := 144) (ls' := [.ref 0, .int x1, .int x2]) (st' := [.int x2, .ref 0, .ref 6]) (h' := mw φ3) rfl ?_
        obtain ⟨y5, hy, hs⟩ := qb1_s hs
        refine qr_c (j := 55) (as := [.ref 0, .int x2]) (rest := [.ref 6]) (v := some (.int y5)) (h1 := mw φ3) hC rfl rfl qC_55 rfl rfl (mo_at_n F d φ3 x2 _ (by omega) hy) ?_
        show qm_Rn (d + 1) 69 147 [.ref 0, .int x1, .int x2] [.int y5, .ref 6] (mw φ3) _
        refine qr_s hC (n := 4) (pc' := 151) (ls' := [.ref 0, .int x1, .int x2]) (st' := [.int 4, .ref 0, .int (y5 + 4), .ref 6]) (h' := mw φ3) rfl ?_
        obtain ⟨y6, hy, hs⟩ := qb1_s hs
        refine qr_c (j := 45) (as := [.ref 0, .int 4]) (rest := [.int (y5 + 4), .ref 6]) (v := some (.int y6)) (h1 := mw φ3) hC rfl rfl qC_45 rfl rfl (mo_had_n F d φ3 4 _ (by omega) hy) ?_
        show qm_Rn (d + 1) 69 154 [.ref 0, .int x1, .int x2] [.int y6, .int (y5 + 4), .ref 6] (mw φ3) _
        obtain ⟨hq, hs⟩ := qg_s hs
        refine qr_is (h' := mw (qm_u φ3 6 ((y5 + 4).toNatClampNeg) y6)) hC rfl rfl hq rfl ?_
        exact qr_w (a := [.ref 0, .retAddr 0, .int x2]) ⟨Or.inr rfl, Or.inl rfl, Or.inr rfl, trivial⟩ (mo_statementHere_L155_n F (d + 1) g hg (by omega) (qm_u φ3 6 ((y5 + 4).toNatClampNeg) y6) x2 _ hs)
    · rw [if_neg hc] at hs
      refine qr_s hC (n := 1) (pc' := 132) (ls' := [.ref 0, .int x1, .int x2]) (st' := [.int 0]) (h' := mw φ3) rfl ?_
      have hs := Option.some.inj hs
      subst hs
      exact qr_r hC rfl rfl
  · rw [if_neg hc] at hs
    refine qr_s hC (n := 1) (pc' := 89) (ls' := [.ref 0, .int x1, .int x2]) (st' := [.int 0]) (h' := mw φ1) rfl ?_
    have hs := Option.some.inj hs
    subst hs
    exact qr_r hC rfl rfl
set_option maxRecDepth 100000 in
theorem mo_statementHere_L76_n (F d : Nat) (g : Nat → qm_F → Int32 → Int32 → Option (Int32 × qm_F)) (hg : ∀ t φ a b r, g t φ a b = some r → mg_S_ok (d - 1) t φ a b r) (hd : 86 ≤ d) (φ : qm_F) (x1 : Int32) (x2 : Int32) (r : (Int32 × qm_F)) (hs : mo_statementHere_L76 F g φ x1 x2 = some r) : qm_Rn d 69 76 [.ref 0, .int x1, .int x2] [.ref 0] (mw φ) (some (.int r.1), mw r.2) := by
  obtain ⟨d, rfl⟩ : ∃ e, d = e + 1 := ⟨d - 1, by omega⟩
  simp only [Nat.add_sub_cancel] at hg
  have hC := qC_69
  unfold mo_statementHere_L76 at hs
  refine qr_s hC (n := 2) (pc' := 81) (ls' := [.ref 0, .int x1, .int x2]) (st' := [.int 1, .ref 0]) (h' := mw φ) rfl ?_
  exact mo_statementHere_L81_n F (d + 1) g hg (by omega) φ x1 x2 1 _ hs
set_option maxRecDepth 100000 in
theorem mo_statementHere_L80_n (F d : Nat) (g : Nat → qm_F → Int32 → Int32 → Option (Int32 × qm_F)) (hg : ∀ t φ a b r, g t φ a b = some r → mg_S_ok (d - 1) t φ a b r) (hd : 86 ≤ d) (φ : qm_F) (x1 : Int32) (x2 : Int32) (r : (Int32 × qm_F)) (hs : mo_statementHere_L80 F g φ x1 x2 = some r) : qm_Rn d 69 80 [.ref 0, .int x1, .int x2] [.ref 0] (mw φ) (some (.int r.1), mw r.2) := by
  obtain ⟨d, rfl⟩ : ∃ e, d = e + 1 := ⟨d - 1, by omega⟩
  simp only [Nat.add_sub_cancel] at hg
  have hC := qC_69
  unfold mo_statementHere_L80 at hs
  refine qr_s hC (n := 1) (pc' := 81) (ls' := [.ref 0, .int x1, .int x2]) (st' := [.int 0, .ref 0]) (h' := mw φ) rfl ?_
  exact mo_statementHere_L81_n F (d + 1) g hg (by omega) φ x1 x2 0 _ hs
set_option maxRecDepth 100000 in
theorem mo_statementHere_L50_n (F d : Nat) (g : Nat → qm_F → Int32 → Int32 → Option (Int32 × qm_F)) (hg : ∀ t φ a b r, g t φ a b = some r → mg_S_ok (d - 1) t φ a b r) (hd : 86 ≤ d) (φ : qm_F) (x1 : Int32) (r : (Int32 × qm_F)) (hs : mo_statementHere_L50 F g φ x1 = some r) : qm_Rn d 69 50 [.ref 0, .int x1, .retAddr 0] [] (mw φ) (some (.int r.1), mw r.2) := by
  obtain ⟨d, rfl⟩ : ∃ e, d = e + 1 := ⟨d - 1, by omega⟩
  simp only [Nat.add_sub_cancel] at hg
  have hC := qC_69
  unfold mo_statementHere_L50 at hs
  refine qr_s hC (n := 2) (pc' := 52) (ls' := [.ref 0, .int x1, .retAddr 0]) (st' := [.int 4, .ref 0]) (h' := mw φ) rfl ?_
  obtain ⟨y1, hy, hs⟩ := qb1_s hs
  refine qr_c (j := 45) (as := [.ref 0, .int 4]) (rest := []) (v := some (.int y1)) (h1 := mw φ) hC rfl rfl qC_45 rfl rfl (mo_had_n F d φ 4 _ (by omega) hy) ?_
  show qm_Rn (d + 1) 69 55 [.ref 0, .int x1, .retAddr 0] [.int y1] (mw φ) _
  refine qr_s hC (n := 4) (pc' := 60) (ls' := [.ref 0, .int x1, .int y1]) (st' := [.int 24, .int y1, .ref 0]) (h' := mw φ) rfl ?_
  refine qr_ge2 (tgt := 80) hC rfl (by decide) rfl (fun hc => ?_) (fun hc => ?_)
  · rw [if_pos hc] at hs
    exact mo_statementHere_L80_n F (d + 1) g hg (by omega) φ x1 y1 _ hs
  · rw [if_neg hc] at hs
    refine qr_s hC (n := 2) (pc' := 65) (ls' := [.ref 0, .int x1, .int y1]) (st' := [.int 5, .int x1, .ref 0]) (h' := mw φ) rfl ?_
    refine qr_ne2 (tgt := 76) hC rfl (by decide) rfl (fun hc => ?_) (fun hc => ?_)
    · rw [if_pos hc] at hs
      exact mo_statementHere_L76_n F (d + 1) g hg (by omega) φ x1 y1 _ hs
    · rw [if_neg hc] at hs
      refine qr_s hC (n := 3) (pc' := 73) (ls' := [.ref 0, .int x1, .int y1]) (st' := [.int 3, .int (φ 0 30), .ref 0]) (h' := mw φ) rfl ?_
      refine qr_ge2 (tgt := 80) hC rfl (by decide) rfl (fun hc => ?_) (fun hc => ?_)
      · rw [if_pos hc] at hs
        exact mo_statementHere_L80_n F (d + 1) g hg (by omega) φ x1 y1 _ hs
      · rw [if_neg hc] at hs
        exact mo_statementHere_L76_n F (d + 1) g hg (by omega) φ x1 y1 _ hs
set_option maxRecDepth 100000 in
theorem mo_statementHere_L41_n (F d : Nat) (g : Nat → qm_F → Int32 → Int32 → Option (Int32 × qm_F)) (hg : ∀ t φ a b r, g t φ a b = some r → mg_S_ok (d - 1) t φ a b r) (hd : 86 ≤ d) (φ : qm_F) (x1 : Int32) (s0 : Int32) (r : (Int32 × qm_F)) (hs : mo_statementHere_L41 F g φ x1 s0 = some r) : qm_Rn d 69 41 [.ref 0, .int x1, .retAddr 0] [.int s0, .ref 0] (mw φ) (some (.int r.1), mw r.2) := by
  obtain ⟨d, rfl⟩ : ∃ e, d = e + 1 := ⟨d - 1, by omega⟩
  simp only [Nat.add_sub_cancel] at hg
  have hC := qC_69
  unfold mo_statementHere_L41 at hs
  refine qr_s hC (n := 1) (pc' := 42) (ls' := [.ref 0, .int x1, .retAddr 0]) (st' := [.int 2, .int s0, .ref 0]) (h' := mw φ) rfl ?_
  obtain ⟨y1, φ1, hy, hs⟩ := qb2_s hs
  refine qr_c (j := 37) (as := [.ref 0, .int s0, .int 2]) (rest := []) (v := some (.int y1)) (h1 := mw φ1) hC rfl rfl qC_37 rfl rfl (mo_must_n F d φ s0 2 _ (by omega) hy) ?_
  show qm_Rn (d + 1) 69 45 [.ref 0, .int x1, .retAddr 0] [.int y1] (mw φ1) _
  refine qr_ne1 (tgt := 50) hC rfl (by decide) rfl (fun hc => ?_) (fun hc => ?_)
  · rw [if_pos hc] at hs
    exact mo_statementHere_L50_n F (d + 1) g hg (by omega) φ1 x1 _ hs
  · rw [if_neg hc] at hs
    refine qr_s hC (n := 1) (pc' := 49) (ls' := [.ref 0, .int x1, .retAddr 0]) (st' := [.int 0]) (h' := mw φ1) rfl ?_
    have hs := Option.some.inj hs
    subst hs
    exact qr_r hC rfl rfl
set_option maxRecDepth 100000 in
theorem mo_statementHere_L15_n (F d : Nat) (g : Nat → qm_F → Int32 → Int32 → Option (Int32 × qm_F)) (hg : ∀ t φ a b r, g t φ a b = some r → mg_S_ok (d - 1) t φ a b r) (hd : 86 ≤ d) (φ : qm_F) (x1 : Int32) (s0 : Int32) (r : (Int32 × qm_F)) (hs : mo_statementHere_L15 F g φ x1 s0 = some r) : qm_Rn d 69 15 [.ref 0, .int x1, .retAddr 0] [.int s0, .ref 0] (mw φ) (some (.int r.1), mw r.2) := by
  obtain ⟨d, rfl⟩ : ∃ e, d = e + 1 := ⟨d - 1, by omega⟩
  simp only [Nat.add_sub_cancel] at hg
  have hC := qC_69
  unfold mo_statementHere_L15 at hs
  refine qr_s hC (n := 1) (pc' := 16) (ls' := [.ref 0, .int x1, .retAddr 0]) (st' := [.int 1, .int s0, .ref 0]) (h' := mw φ) rfl ?_
  obtain ⟨y1, φ1, hy, hs⟩ := qb2_s hs
  refine qr_c (j := 37) (as := [.ref 0, .int s0, .int 1]) (rest := []) (v := some (.int y1)) (h1 := mw φ1) hC rfl rfl qC_37 rfl rfl (mo_must_n F d φ s0 1 _ (by omega) hy) ?_
  show qm_Rn (d + 1) 69 19 [.ref 0, .int x1, .retAddr 0] [.int y1] (mw φ1) _
  refine qr_ne1 (tgt := 24) hC rfl (by decide) rfl (fun hc => ?_) (fun hc => ?_)
  · rw [if_pos hc] at hs
    refine qr_s hC (n := 1) (pc' := 25) (ls' := [.ref 0, .int x1, .retAddr 0]) (st' := [.int x1]) (h' := mw φ1) rfl ?_
    refine qr_ne1 (tgt := 50) hC rfl (by decide) rfl (fun hc => ?_) (fun hc => ?_)
    · rw [if_pos hc] at hs
      exact mo_statementHere_L50_n F (d + 1) g hg (by omega) φ1 x1 _ hs
    · rw [if_neg hc] at hs
      refine qr_s hC (n := 2) (pc' := 30) (ls' := [.ref 0, .int x1, .retAddr 0]) (st' := [.ref 0, .ref 0]) (h' := mw φ1) rfl ?_
      obtain ⟨y2, hy, hs⟩ := qb1_s hs
      refine qr_c (j := 59) (as := [.ref 0]) (rest := [.ref 0]) (v := some (.int y2)) (h1 := mw φ1) hC rfl rfl qC_59 rfl rfl (mo_setHere_n F d φ1 _ (by omega) hy) ?_
      show qm_Rn (d + 1) 69 33 [.ref 0, .int x1, .retAddr 0] [.int y2, .ref 0] (mw φ1) _
      refine qr_lt1 (tgt := 40) hC rfl (by decide) rfl (fun hc => ?_) (fun hc => ?_)
      · rw [if_pos hc] at hs
        refine qr_s hC (n := 1) (pc' := 41) (ls' := [.ref 0, .int x1, .retAddr 0]) (st' := [.int 0, .ref 0]) (h' := mw φ1) rfl ?_
        exact mo_statementHere_L41_n F (d + 1) g hg (by omega) φ1 x1 0 _ hs
      · rw [if_neg hc] at hs
        refine qr_s hC (n := 2) (pc' := 41) (ls' := [.ref 0, .int x1, .retAddr 0]) (st' := [.int 1, .ref 0]) (h' := mw φ1) rfl ?_
        exact mo_statementHere_L41_n F (d + 1) g hg (by omega) φ1 x1 1 _ hs
  · rw [if_neg hc] at hs
    refine qr_s hC (n := 1) (pc' := 23) (ls' := [.ref 0, .int x1, .retAddr 0]) (st' := [.int 0]) (h' := mw φ1) rfl ?_
    have hs := Option.some.inj hs
    subst hs
    exact qr_r hC rfl rfl
set_option maxRecDepth 100000 in
theorem mo_statementHere_n (F d : Nat) (g : Nat → qm_F → Int32 → Int32 → Option (Int32 × qm_F)) (hg : ∀ t φ a b r, g t φ a b = some r → mg_S_ok (d - 1) t φ a b r) (hd : 86 ≤ d) (φ : qm_F) (r : (Int32 × qm_F)) (hs : mo_statementHere F g φ = some r) : qm_Rn d 69 0 [.ref 0, .retAddr 0, .retAddr 0] [] (mw φ) (some (.int r.1), mw r.2) := by
  obtain ⟨d, rfl⟩ : ∃ e, d = e + 1 := ⟨d - 1, by omega⟩
  simp only [Nat.add_sub_cancel] at hg
  have hC := qC_69
  unfold mo_statementHere at hs
  refine qr_s hC (n := 1) (pc' := 1) (ls' := [.ref 0, .retAddr 0, .retAddr 0]) (st' := [.ref 0]) (h' := mw φ) rfl ?_
  obtain ⟨y1, hy, hs⟩ := qb1_s hs
  refine qr_c (j := 68) (as := [.ref 0]) (rest := []) (v := some (.int y1)) (h1 := mw φ) hC rfl rfl qC_68 rfl rfl (mo_kindHere_n F d φ _ (by omega) hy) ?_
  show qm_Rn (d + 1) 69 4 [.ref 0, .retAddr 0, .retAddr 0] [.int y1] (mw φ) _
  refine qr_s hC (n := 3) (pc' := 7) (ls' := [.ref 0, .int y1, .retAddr 0]) (st' := [.int y1, .ref 0]) (h' := mw φ) rfl ?_
  refine qr_lt1 (tgt := 14) hC rfl (by decide) rfl (fun hc => ?_) (fun hc => ?_)
  · rw [if_pos hc] at hs
    refine qr_s hC (n := 1) (pc' := 15) (ls' := [.ref 0, .int y1, .retAddr 0]) (st' := [.int 0, .ref 0]) (h' := mw φ) rfl ?_
    exact mo_statementHere_L15_n F (d + 1) g hg (by omega) φ y1 0 _ hs
  · rw [if_neg hc] at hs
    refine qr_s hC (n := 2) (pc' := 15) (ls' := [.ref 0, .int y1, .retAddr 0]) (st' := [.int 1, .ref 0]) (h' := mw φ) rfl ?_
    exact mo_statementHere_L15_n F (d + 1) g hg (by omega) φ y1 1 _ hs

/-- SketchFillerModel.doing(II)Z -/
def mo_doing (F : Nat) (g : Nat → qm_F → Int32 → Int32 → Option (Int32 × qm_F)) (φ : qm_F) (x1 : Int32) (x2 : Int32) : Option (Int32 × qm_F) :=
  if x1 = 0 then
    qb2 (mo_setsHere F φ x2) fun y1 φ1 =>
    qg (qm_bz y1) (some (y1, φ1))
  else
  if x1 = 1 then
    qb2 (mo_mustHere F φ x2) fun y2 φ2 =>
    qg (qm_bz y2) (some (y2, φ2))
  else
  if x1 = 2 then
    qb2 (g 4 φ x2 0) fun y3 φ3 =>
    qg (qm_bz y3) (some (y3, φ3))
  else
  if x1 = 3 then
    qb2 (g 6 φ x2 0) fun y4 φ4 =>
    qg (qm_bz y4) (some (y4, φ4))
  else
  if x1 = 4 then
    qb2 (g 5 φ x2 0) fun y5 φ5 =>
    qg (qm_bz y5) (some (y5, φ5))
  else
  qb2 (g 3 φ x2 0) fun y6 φ6 =>
  qg (qm_bz y6) (some (y6, φ6))
set_option maxRecDepth 100000 in
theorem mo_doing_n (F d : Nat) (g : Nat → qm_F → Int32 → Int32 → Option (Int32 × qm_F)) (hg : ∀ t φ a b r, g t φ a b = some r → mg_S_ok (d - 1) t φ a b r) (hd : 86 ≤ d) (φ : qm_F) (x1 : Int32) (x2 : Int32) (r : (Int32 × qm_F)) (hs : mo_doing F g φ x1 x2 = some r) : qm_Rn d 67 0 [.ref 0, .int x1, .int x2] [] (mw φ) (some (.int r.1), mw r.2) := by
  obtain ⟨d, rfl⟩ : ∃ e, d = e + 1 := ⟨d - 1, by omega⟩
  simp only [Nat.add_sub_cancel] at hg
  have hC := qC_67
  unfold mo_doing at hs
  refine qr_s hC (n := 1) (pc' := 1) (ls' := [.ref 0, .int x1, .int x2]) (st' := [.int x1]) (h' := mw φ) rfl ?_
  by_cases q0 : x1 = 0
  · rw [if_pos q0] at hs
    refine qr_sw hC (tgt := 36) rfl q0 rfl ?_
    refine qr_s hC (n := 2) (pc' := 38) (ls' := [.ref 0, .int x1, .int x2]) (st' := [.int x2, .ref 0]) (h' := mw φ) rfl ?_
    obtain ⟨y1, φ1, hy, hs⟩ := qb2_s hs
    refine qr_c (j := 64) (as := [.ref 0, .int x2]) (rest := []) (v := some (.int y1)) (h1 := mw φ1) hC rfl rfl qC_64 rfl rfl (mo_setsHere_n F d φ x2 _ (by omega) hy) ?_
    show qm_Rn (d + 1) 67 41 [.ref 0, .int x1, .int x2] [.int y1] (mw φ1) _
    obtain ⟨hz, hs⟩ := qg_s hs
    have hs := Option.some.inj hs
    subst hs
    exact qr_rz hC rfl hz
  · rw [if_neg q0] at hs
    by_cases q1 : x1 = 1
    · rw [if_pos q1] at hs
      refine qr_sw hC (tgt := 42) rfl q1 rfl ?_
      refine qr_s hC (n := 2) (pc' := 44) (ls' := [.ref 0, .int x1, .int x2]) (st' := [.int x2, .ref 0]) (h' := mw φ) rfl ?_
      obtain ⟨y2, φ2, hy, hs⟩ := qb2_s hs
      refine qr_c (j := 65) (as := [.ref 0, .int x2]) (rest := []) (v := some (.int y2)) (h1 := mw φ2) hC rfl rfl qC_65 rfl rfl (mo_mustHere_n F d φ x2 _ (by omega) hy) ?_
      show qm_Rn (d + 1) 67 47 [.ref 0, .int x1, .int x2] [.int y2] (mw φ2) _
      obtain ⟨hz, hs⟩ := qg_s hs
      have hs := Option.some.inj hs
      subst hs
      exact qr_rz hC rfl hz
    · rw [if_neg q1] at hs
      by_cases q2 : x1 = 2
      · rw [if_pos q2] at hs
        refine qr_sw hC (tgt := 48) rfl q2 rfl ?_
        refine qr_s hC (n := 2) (pc' := 50) (ls' := [.ref 0, .int x1, .int x2]) (st' := [.int x2, .ref 0]) (h' := mw φ) rfl ?_
        obtain ⟨y3, φ3, hy, hs⟩ := qb2_s hs
        refine qr_c (j := 62) (as := [.ref 0, .int x2]) (rest := []) (v := some (.int y3)) (h1 := mw φ3) hC rfl rfl qC_62 rfl rfl (hg 4 φ x2 0 _ hy) ?_
        show qm_Rn (d + 1) 67 53 [.ref 0, .int x1, .int x2] [.int y3] (mw φ3) _
        obtain ⟨hz, hs⟩ := qg_s hs
        have hs := Option.some.inj hs
        subst hs
        exact qr_rz hC rfl hz
      · rw [if_neg q2] at hs
        by_cases q3 : x1 = 3
        · rw [if_pos q3] at hs
          refine qr_sw hC (tgt := 54) rfl q3 rfl ?_
          refine qr_s hC (n := 2) (pc' := 56) (ls' := [.ref 0, .int x1, .int x2]) (st' := [.int x2, .ref 0]) (h' := mw φ) rfl ?_
          obtain ⟨y4, φ4, hy, hs⟩ := qb2_s hs
          refine qr_c (j := 66) (as := [.ref 0, .int x2]) (rest := []) (v := some (.int y4)) (h1 := mw φ4) hC rfl rfl qC_66 rfl rfl (hg 6 φ x2 0 _ hy) ?_
          show qm_Rn (d + 1) 67 59 [.ref 0, .int x1, .int x2] [.int y4] (mw φ4) _
          obtain ⟨hz, hs⟩ := qg_s hs
          have hs := Option.some.inj hs
          subst hs
          exact qr_rz hC rfl hz
        · rw [if_neg q3] at hs
          by_cases q4 : x1 = 4
          · rw [if_pos q4] at hs
            refine qr_sw hC (tgt := 60) rfl q4 rfl ?_
            refine qr_s hC (n := 2) (pc' := 62) (ls' := [.ref 0, .int x1, .int x2]) (st' := [.int x2, .ref 0]) (h' := mw φ) rfl ?_
            obtain ⟨y5, φ5, hy, hs⟩ := qb2_s hs
            refine qr_c (j := 63) (as := [.ref 0, .int x2]) (rest := []) (v := some (.int y5)) (h1 := mw φ5) hC rfl rfl qC_63 rfl rfl (hg 5 φ x2 0 _ hy) ?_
            show qm_Rn (d + 1) 67 65 [.ref 0, .int x1, .int x2] [.int y5] (mw φ5) _
            obtain ⟨hz, hs⟩ := qg_s hs
            have hs := Option.some.inj hs
            subst hs
            exact qr_rz hC rfl hz
          · rw [if_neg q4] at hs
            have z0 : Int32.toInt x1 ≠ 0 := fun z => q0 (Int32.toInt_inj.mp (z.trans (by decide)))
            have z1 : Int32.toInt x1 ≠ 1 := fun z => q1 (Int32.toInt_inj.mp (z.trans (by decide)))
            have z2 : Int32.toInt x1 ≠ 2 := fun z => q2 (Int32.toInt_inj.mp (z.trans (by decide)))
            have z3 : Int32.toInt x1 ≠ 3 := fun z => q3 (Int32.toInt_inj.mp (z.trans (by decide)))
            have z4 : Int32.toInt x1 ≠ 4 := fun z => q4 (Int32.toInt_inj.mp (z.trans (by decide)))
            refine qr_tD (tgt := 66) hC rfl (by omega) (by decide) rfl ?_
            refine qr_s hC (n := 2) (pc' := 68) (ls' := [.ref 0, .int x1, .int x2]) (st' := [.int x2, .ref 0]) (h' := mw φ) rfl ?_
            obtain ⟨y6, φ6, hy, hs⟩ := qb2_s hs
            refine qr_c (j := 61) (as := [.ref 0, .int x2]) (rest := []) (v := some (.int y6)) (h1 := mw φ6) hC rfl rfl qC_61 rfl rfl (hg 3 φ x2 0 _ hy) ?_
            show qm_Rn (d + 1) 67 71 [.ref 0, .int x1, .int x2] [.int y6] (mw φ6) _
            obtain ⟨hz, hs⟩ := qg_s hs
            have hs := Option.some.inj hs
            subst hs
            exact qr_rz hC rfl hz

/-- SketchFillerModel.letHere(I)Z -/
def mo_letHere (F : Nat) (g : Nat → qm_F → Int32 → Int32 → Option (Int32 × qm_F)) (φ : qm_F) (x1 : Int32) : Option (Int32 × qm_F) :=
  qb1 (mo_steps F φ) fun φ1 =>
  qb2 (mo_newName F φ1) fun y1 φ2 =>
  if ¬ y1 = 0 then
    qb1 (mo_steps F φ2) fun φ3 =>
    qb2 (mo_takesSign F φ3 61) fun y2 φ4 =>
    if y2 = 0 then
      some (0, φ4)
    else
      qb2 (mo_eOf F φ4 x1) fun y3 φ5 =>
      if ¬ y3 = 0 then
        qb1 (mo_at F φ5 x1) fun y4 =>
        qg (qm_in (y4 + 1) 288) <|
        qg (qm_in (((15 * (φ5 0 13)) + 12) + (φ5 0 30)) 30) <|
        qb2 (g 0 (qm_u (qm_u (qm_u φ5 6 ((y4 + 1).toNatClampNeg) (12 + (φ5 0 30))) 3 ((((15 * (φ5 0 13)) + 12) + (φ5 0 30)).toNatClampNeg) (φ2 0 8)) 0 30 ((φ5 0 30) + 1)) 0 0) fun y5 φ6 =>
        if ¬ y5 = 0 then
          qg (qm_in (((15 * (φ6 0 13)) + 12) + ((φ6 0 30) - 1)) 30) <|
          some (1, (qm_u (qm_u φ6 0 30 ((φ6 0 30) - 1)) 3 ((((15 * (φ6 0 13)) + 12) + ((φ6 0 30) - 1)).toNatClampNeg) 0))
        else
          some (0, φ6)
      else
        some (0, φ5)
  else
    some (0, φ2)
set_option maxRecDepth 100000 in
theorem mo_letHere_n (F d : Nat) (g : Nat → qm_F → Int32 → Int32 → Option (Int32 × qm_F)) (hg : ∀ t φ a b r, g t φ a b = some r → mg_S_ok (d - 1) t φ a b r) (hd : 86 ≤ d) (φ : qm_F) (x1 : Int32) (r : (Int32 × qm_F)) (hs : mo_letHere F g φ x1 = some r) : qm_Rn d 61 0 [.ref 0, .int x1, .retAddr 0] [] (mw φ) (some (.int r.1), mw r.2) := by
  obtain ⟨d, rfl⟩ : ∃ e, d = e + 1 := ⟨d - 1, by omega⟩
  simp only [Nat.add_sub_cancel] at hg
  have hC := qC_61
  unfold mo_letHere at hs
  refine qr_s hC (n := 1) (pc' := 1) (ls' := [.ref 0, .int x1, .retAddr 0]) (st' := [.ref 0]) (h' := mw φ) rfl ?_
  obtain ⟨φ1, hy, hs⟩ := qb1_s hs
  refine qr_c (j := 36) (as := [.ref 0]) (rest := []) (v := none) (h1 := mw φ1) hC rfl rfl qC_36 rfl rfl (mo_steps_n F d φ _ (by omega) hy) ?_
  show qm_Rn (d + 1) 61 4 [.ref 0, .int x1, .retAddr 0] [] (mw φ1) _
  refine qr_s hC (n := 1) (pc' := 5) (ls' := [.ref 0, .int x1, .retAddr 0]) (st' := [.ref 0]) (h' := mw φ1) rfl ?_
  obtain ⟨y1, φ2, hy, hs⟩ := qb2_s hs
  refine qr_c (j := 60) (as := [.ref 0]) (rest := []) (v := some (.int y1)) (h1 := mw φ2) hC rfl rfl qC_60 rfl rfl (mo_newName_n F d φ1 _ (by omega) hy) ?_
  show qm_Rn (d + 1) 61 8 [.ref 0, .int x1, .retAddr 0] [.int y1] (mw φ2) _
  refine qr_ne1 (tgt := 13) hC rfl (by decide) rfl (fun hc => ?_) (fun hc => ?_)
  · rw [if_pos hc] at hs
    refine qr_s hC (n := 4) (pc' := 19) (ls' := [.ref 0, .int x1, .int (φ2 0 8)]) (st' := [.ref 0]) (h' := mw φ2) rfl ?_
    obtain ⟨φ3, hy, hs⟩ := qb1_s hs
    refine qr_c (j := 36) (as := [.ref 0]) (rest := []) (v := none) (h1 := mw φ3) hC rfl rfl qC_36 rfl rfl (mo_steps_n F d φ2 _ (by omega) hy) ?_
    show qm_Rn (d + 1) 61 22 [.ref 0, .int x1, .int (φ2 0 8)] [] (mw φ3) _
    refine qr_s hC (n := 2) (pc' := 25) (ls' := [.ref 0, .int x1, .int (φ2 0 8)]) (st' := [.int 61, .ref 0]) (h' := mw φ3) rfl ?_
    obtain ⟨y2, φ4, hy, hs⟩ := qb2_s hs
    refine qr_c (j := 42) (as := [.ref 0, .int 61]) (rest := []) (v := some (.int y2)) (h1 := mw φ4) hC rfl rfl qC_42 rfl rfl (mo_takesSign_n F d φ3 61 _ (by omega) hy) ?_
    show qm_Rn (d + 1) 61 28 [.ref 0, .int x1, .int (φ2 0 8)] [.int y2] (mw φ4) _
    refine qr_eq1 (tgt := 39) hC rfl (by decide) rfl (fun hc => ?_) (fun hc => ?_)
    · rw [if_pos hc] at hs
      refine qr_s hC (n := 1) (pc' := 40) (ls' := [.ref 0, .int x1, .int (φ2 0 8)]) (st' := [.int 0]) (h' := mw φ4) rfl ?_
      have hs := Option.some.inj hs
      subst hs
      exact qr_r hC rfl rfl
    · rw [if_neg hc] at hs
      refine qr_s hC (n := 2) (pc' := 33) (ls' := [.ref 0, .int x1, .int (φ2 0 8)]) (st' := [.int x1, .ref 0]) (h' := mw φ4) rfl ?_
      obtain ⟨y3, φ5, hy, hs⟩ := qb2_s hs
      refine qr_c (j := 56) (as := [.ref 0, .int x1]) (rest := []) (v := some (.int y3)) (h1 := mw φ5) hC rfl rfl qC_56 rfl rfl (mo_eOf_n F d φ4 x1 _ (by omega) hy) ?_
      show qm_Rn (d + 1) 61 36 [.ref 0, .int x1, .int (φ2 0 8)] [.int y3] (mw φ5) _
      refine qr_ne1 (tgt := 41) hC rfl (by decide) rfl (fun hc => ?_) (fun hc => ?_)
      · rw [if_pos hc] at hs
        refine qr_s hC (n := 4) (pc' := 47) (ls' := [.ref 0, .int x1, .int (φ2 0 8)]) (st' := [.int x1, .ref 0, .ref 6]) (h' := mw φ5) rfl ?_
        obtain ⟨y4, hy, hs⟩ := qb1_s hs
        refine qr_c (j := 55) (as := [.ref 0, .int x1]) (rest := [.ref 6]) (v := some (.int y4)) (h1 := mw φ5) hC rfl rfl qC_55 rfl rfl (mo_at_n F d φ5 x1 _ (by omega) hy) ?_
        show qm_Rn (d + 1) 61 50 [.ref 0, .int x1, .int (φ2 0 8)] [.int y4, .ref 6] (mw φ5) _
        refine qr_s hC (n := 6) (pc' := 59) (ls' := [.ref 0, .int x1, .int (φ2 0 8)]) (st' := [.int (12 + (φ5 0 30)), .int (y4 + 1), .ref 6]) (h' := mw φ5) rfl ?_
        obtain ⟨hq, hs⟩ := qg_s hs
        refine qr_is (h' := mw (qm_u φ5 6 ((y4 + 1).toNatClampNeg) (12 + (φ5 0 30)))) hC rfl rfl hq rfl ?_
        refine qr_s hC (n := 12) (pc' := 80) (ls' := [.ref 0, .int x1, .int (φ2 0 8)]) (st' := [.int (φ2 0 8), .int (((15 * (φ5 0 13)) + 12) + (φ5 0 30)), .ref 3]) (h' := mw (qm_u φ5 6 ((y4 + 1).toNatClampNeg) (12 + (φ5 0 30)))) rfl ?_
        obtain ⟨hq, hs⟩ := qg_s hs
        refine qr_is (h' := mw (qm_u (qm_u φ5 6 ((y4 + 1).toNatClampNeg) (12 + (φ5 0 30))) 3 ((((15 * (φ5 0 13)) + 12) + (φ5 0 30)).toNatClampNeg) (φ2 0 8))) hC rfl rfl hq rfl ?_
        refine qr_s hC (n := 7) (pc' := 92) (ls' := [.ref 0, .int x1, .int (φ2 0 8)]) (st' := [.ref 0]) (h' := mw (qm_u (qm_u (qm_u φ5 6 ((y4 + 1).toNatClampNeg) (12 + (φ5 0 30))) 3 ((((15 * (φ5 0 13)) + 12) + (φ5 0 30)).toNatClampNeg) (φ2 0 8)) 0 30 ((φ5 0 30) + 1))) rfl ?_
        obtain ⟨y5, φ6, hy, hs⟩ := qb2_s hs
        refine qr_c (j := 57) (as := [.ref 0]) (rest := []) (v := some (.int y5)) (h1 := mw φ6) hC rfl rfl qC_57 rfl rfl (hg 0 (qm_u (qm_u (qm_u φ5 6 ((y4 + 1).toNatClampNeg) (12 + (φ5 0 30))) 3 ((((15 * (φ5 0 13)) + 12) + (φ5 0 30)).toNatClampNeg) (φ2 0 8)) 0 30 ((φ5 0 30) + 1)) 0 0 _ hy) ?_
        show qm_Rn (d + 1) 61 95 [.ref 0, .int x1, .int (φ2 0 8)] [.int y5] (mw φ6) _
        refine qr_ne1 (tgt := 100) hC rfl (by decide) rfl (fun hc => ?_) (fun hc => ?_)
        · rw [if_pos hc] at hs
          refine qr_s hC (n := 18) (pc' := 130) (ls' := [.ref 0, .int x1, .int (φ2 0 8)]) (st' := [.int 0, .int (((15 * (φ6 0 13)) + 12) + ((φ6 0 30) - 1)), .ref 3]) (h' := mw (qm_u φ6 0 30 ((φ6 0 30) - 1))) rfl ?_
          obtain ⟨hq, hs⟩ := qg_s hs
          refine qr_is (h' := mw (qm_u (qm_u φ6 0 30 ((φ6 0 30) - 1)) 3 ((((15 * (φ6 0 13)) + 12) + ((φ6 0 30) - 1)).toNatClampNeg) 0)) hC rfl rfl hq rfl ?_
          refine qr_s hC (n := 1) (pc' := 132) (ls' := [.ref 0, .int x1, .int (φ2 0 8)]) (st' := [.int 1]) (h' := mw (qm_u (qm_u φ6 0 30 ((φ6 0 30) - 1)) 3 ((((15 * (φ6 0 13)) + 12) + ((φ6 0 30) - 1)).toNatClampNeg) 0)) rfl ?_
          have hs := Option.some.inj hs
          subst hs
          exact qr_r hC rfl rfl
        · rw [if_neg hc] at hs
          refine qr_s hC (n := 1) (pc' := 99) (ls' := [.ref 0, .int x1, .int (φ2 0 8)]) (st' := [.int 0]) (h' := mw φ6) rfl ?_
          have hs := Option.some.inj hs
          subst hs
          exact qr_r hC rfl rfl
      · rw [if_neg hc] at hs
        refine qr_s hC (n := 1) (pc' := 40) (ls' := [.ref 0, .int x1, .int (φ2 0 8)]) (st' := [.int 0]) (h' := mw φ5) rfl ?_
        have hs := Option.some.inj hs
        subst hs
        exact qr_r hC rfl rfl
  · rw [if_neg hc] at hs
    refine qr_s hC (n := 1) (pc' := 12) (ls' := [.ref 0, .int x1, .retAddr 0]) (st' := [.int 0]) (h' := mw φ2) rfl ?_
    have hs := Option.some.inj hs
    subst hs
    exact qr_r hC rfl rfl

/-- SketchFillerModel.ifHere(I)Z -/
def mo_ifHere (F : Nat) (g : Nat → qm_F → Int32 → Int32 → Option (Int32 × qm_F)) (φ : qm_F) (x1 : Int32) : Option (Int32 × qm_F) :=
  qb1 (mo_steps F φ) fun φ1 =>
  qb2 (mo_eOf F φ1 x1) fun y1 φ2 =>
  if y1 = 0 then
    some (0, φ2)
  else
    qb2 (g 0 φ2 0 0) fun y2 φ3 =>
    if ¬ y2 = 0 then
      qb1 (mo_at F φ3 x1) fun y3 =>
      qb1 (mo_had F φ3 4) fun y4 =>
      qg (qm_in (y3 + 4) 288) <|
      qb1 (mo_own F (qm_u φ3 6 ((y3 + 4).toNatClampNeg) y4)) fun y5 =>
      if y5 = 7 then
        qb1 (mo_steps F (qm_u φ3 6 ((y3 + 4).toNatClampNeg) y4)) fun φ4 =>
        qb2 (g 0 φ4 0 0) fun y6 φ5 =>
        qg (qm_bz y6) (some (y6, φ5))
      else
        some (1, (qm_u φ3 6 ((y3 + 4).toNatClampNeg) y4))
    else
      some (0, φ3)
set_option maxRecDepth 100000 in
theorem mo_ifHere_n (F d : Nat) (g : Nat → qm_F → Int32 → Int32 → Option (Int32 × qm_F)) (hg : ∀ t φ a b r, g t φ a b = some r → mg_S_ok (d - 1) t φ a b r) (hd : 86 ≤ d) (φ : qm_F) (x1 : Int32) (r : (Int32 × qm_F)) (hs : mo_ifHere F g φ x1 = some r) : qm_Rn d 62 0 [.ref 0, .int x1] [] (mw φ) (some (.int r.1), mw r.2) := by
  obtain ⟨d, rfl⟩ : ∃ e, d = e + 1 := ⟨d - 1, by omega⟩
  simp only [Nat.add_sub_cancel] at hg
  have hC := qC_62
  unfold mo_ifHere at hs
  refine qr_s hC (n := 1) (pc' := 1) (ls' := [.ref 0, .int x1]) (st' := [.ref 0]) (h' := mw φ) rfl ?_
  obtain ⟨φ1, hy, hs⟩ := qb1_s hs
  refine qr_c (j := 36) (as := [.ref 0]) (rest := []) (v := none) (h1 := mw φ1) hC rfl rfl qC_36 rfl rfl (mo_steps_n F d φ _ (by omega) hy) ?_
  show qm_Rn (d + 1) 62 4 [.ref 0, .int x1] [] (mw φ1) _
  refine qr_s hC (n := 2) (pc' := 6) (ls' := [.ref 0, .int x1]) (st' := [.int x1, .ref 0]) (h' := mw φ1) rfl ?_
  obtain ⟨y1, φ2, hy, hs⟩ := qb2_s hs
  refine qr_c (j := 56) (as := [.ref 0, .int x1]) (rest := []) (v := some (.int y1)) (h1 := mw φ2) hC rfl rfl qC_56 rfl rfl (mo_eOf_n F d φ1 x1 _ (by omega) hy) ?_
  show qm_Rn (d + 1) 62 9 [.ref 0, .int x1] [.int y1] (mw φ2) _
  refine qr_eq1 (tgt := 19) hC rfl (by decide) rfl (fun hc => ?_) (fun hc => ?_)
  · rw [if_pos hc] at hs
    refine qr_s hC (n := 1) (pc' := 20) (ls' := [.ref 0, .int x1]) (st' := [.int 0]) (h' := mw φ2) rfl ?_
    have hs := Option.some.inj hs
    subst hs
    exact qr_r hC rfl rfl
  · rw [if_neg hc] at hs
    refine qr_s hC (n := 1) (pc' := 13) (ls' := [.ref 0, .int x1]) (st' := [.ref 0]) (h' := mw φ2) rfl ?_
    obtain ⟨y2, φ3, hy, hs⟩ := qb2_s hs
    refine qr_c (j := 57) (as := [.ref 0]) (rest := []) (v := some (.int y2)) (h1 := mw φ3) hC rfl rfl qC_57 rfl rfl (hg 0 φ2 0 0 _ hy) ?_
    show qm_Rn (d + 1) 62 16 [.ref 0, .int x1] [.int y2] (mw φ3) _
    refine qr_ne1 (tgt := 21) hC rfl (by decide) rfl (fun hc => ?_) (fun hc => ?_)
    · rw [if_pos hc] at hs
      refine qr_s hC (n := 4) (pc' := 27) (ls' := [.ref 0, .int x1]) (st' := [.int x1, .ref 0, .ref 6]) (h' := mw φ3) rfl ?_
      obtain ⟨y3, hy, hs⟩ := qb1_s hs
      refine qr_c (j := 55) (as := [.ref 0, .int x1]) (rest := [.ref 6]) (v := some (.int y3)) (h1 := mw φ3) hC rfl rfl qC_55 rfl rfl (mo_at_n F d φ3 x1 _ (by omega) hy) ?_
      show qm_Rn (d + 1) 62 30 [.ref 0, .int x1] [.int y3, .ref 6] (mw φ3) _
      refine qr_s hC (n := 4) (pc' := 34) (ls' := [.ref 0, .int x1]) (st' := [.int 4, .ref 0, .int (y3 + 4), .ref 6]) (h' := mw φ3) rfl ?_
      obtain ⟨y4, hy, hs⟩ := qb1_s hs
      refine qr_c (j := 45) (as := [.ref 0, .int 4]) (rest := [.int (y3 + 4), .ref 6]) (v := some (.int y4)) (h1 := mw φ3) hC rfl rfl qC_45 rfl rfl (mo_had_n F d φ3 4 _ (by omega) hy) ?_
      show qm_Rn (d + 1) 62 37 [.ref 0, .int x1] [.int y4, .int (y3 + 4), .ref 6] (mw φ3) _
      obtain ⟨hq, hs⟩ := qg_s hs
      refine qr_is (h' := mw (qm_u φ3 6 ((y3 + 4).toNatClampNeg) y4)) hC rfl rfl hq rfl ?_
      refine qr_s hC (n := 1) (pc' := 39) (ls' := [.ref 0, .int x1]) (st' := [.ref 0]) (h' := mw (qm_u φ3 6 ((y3 + 4).toNatClampNeg) y4)) rfl ?_
      obtain ⟨y5, hy, hs⟩ := qb1_s hs
      refine qr_c (j := 40) (as := [.ref 0]) (rest := []) (v := some (.int y5)) (h1 := mw (qm_u φ3 6 ((y3 + 4).toNatClampNeg) y4)) hC rfl rfl qC_40 rfl rfl (mo_own_n F d (qm_u φ3 6 ((y3 + 4).toNatClampNeg) y4) _ (by omega) hy) ?_
      show qm_Rn (d + 1) 62 42 [.ref 0, .int x1] [.int y5] (mw (qm_u φ3 6 ((y3 + 4).toNatClampNeg) y4)) _
      refine qr_s hC (n := 1) (pc' := 44) (ls' := [.ref 0, .int x1]) (st' := [.int 7, .int y5]) (h' := mw (qm_u φ3 6 ((y3 + 4).toNatClampNeg) y4)) rfl ?_
      refine qr_eq2 (tgt := 49) hC rfl (by decide) rfl (fun hc => ?_) (fun hc => ?_)
      · rw [if_pos hc] at hs
        refine qr_s hC (n := 1) (pc' := 50) (ls' := [.ref 0, .int x1]) (st' := [.ref 0]) (h' := mw (qm_u φ3 6 ((y3 + 4).toNatClampNeg) y4)) rfl ?_
        obtain ⟨φ4, hy, hs⟩ := qb1_s hs
        refine qr_c (j := 36) (as := [.ref 0]) (rest := []) (v := none) (h1 := mw φ4) hC rfl rfl qC_36 rfl rfl (mo_steps_n F d (qm_u φ3 6 ((y3 + 4).toNatClampNeg) y4) _ (by omega) hy) ?_
        show qm_Rn (d + 1) 62 53 [.ref 0, .int x1] [] (mw φ4) _
        refine qr_s hC (n := 1) (pc' := 54) (ls' := [.ref 0, .int x1]) (st' := [.ref 0]) (h' := mw φ4) rfl ?_
        obtain ⟨y6, φ5, hy, hs⟩ := qb2_s hs
        refine qr_c (j := 57) (as := [.ref 0]) (rest := []) (v := some (.int y6)) (h1 := mw φ5) hC rfl rfl qC_57 rfl rfl (hg 0 φ4 0 0 _ hy) ?_
        show qm_Rn (d + 1) 62 57 [.ref 0, .int x1] [.int y6] (mw φ5) _
        obtain ⟨hz, hs⟩ := qg_s hs
        have hs := Option.some.inj hs
        subst hs
        exact qr_rz hC rfl hz
      · rw [if_neg hc] at hs
        refine qr_s hC (n := 1) (pc' := 48) (ls' := [.ref 0, .int x1]) (st' := [.int 1]) (h' := mw (qm_u φ3 6 ((y3 + 4).toNatClampNeg) y4)) rfl ?_
        have hs := Option.some.inj hs
        subst hs
        exact qr_r hC rfl rfl
    · rw [if_neg hc] at hs
      refine qr_s hC (n := 1) (pc' := 20) (ls' := [.ref 0, .int x1]) (st' := [.int 0]) (h' := mw φ3) rfl ?_
      have hs := Option.some.inj hs
      subst hs
      exact qr_r hC rfl rfl

/-- SketchFillerModel.whileHere(I)Z -/
def mo_whileHere (F : Nat) (g : Nat → qm_F → Int32 → Int32 → Option (Int32 × qm_F)) (φ : qm_F) (x1 : Int32) : Option (Int32 × qm_F) :=
  qb1 (mo_steps F φ) fun φ1 =>
  qb2 (mo_eOf F φ1 x1) fun y1 φ2 =>
  if y1 = 0 then
    some (0, φ2)
  else
    qb2 (mo_takesOwn F φ2 10) fun y2 φ3 =>
    if y2 = 0 then
      some (0, φ3)
    else
      qb2 (mo_numbered F φ3 x1) fun y3 φ4 =>
      if y3 = 0 then
        some (0, φ4)
      else
        qb2 (g 0 φ4 0 0) fun y4 φ5 =>
        if y4 = 0 then
          some (0, φ5)
        else
          some (1, φ5)
set_option maxRecDepth 100000 in
theorem mo_whileHere_n (F d : Nat) (g : Nat → qm_F → Int32 → Int32 → Option (Int32 × qm_F)) (hg : ∀ t φ a b r, g t φ a b = some r → mg_S_ok (d - 1) t φ a b r) (hd : 86 ≤ d) (φ : qm_F) (x1 : Int32) (r : (Int32 × qm_F)) (hs : mo_whileHere F g φ x1 = some r) : qm_Rn d 63 0 [.ref 0, .int x1] [] (mw φ) (some (.int r.1), mw r.2) := by
  obtain ⟨d, rfl⟩ : ∃ e, d = e + 1 := ⟨d - 1, by omega⟩
  simp only [Nat.add_sub_cancel] at hg
  have hC := qC_63
  unfold mo_whileHere at hs
  refine qr_s hC (n := 1) (pc' := 1) (ls' := [.ref 0, .int x1]) (st' := [.ref 0]) (h' := mw φ) rfl ?_
  obtain ⟨φ1, hy, hs⟩ := qb1_s hs
  refine qr_c (j := 36) (as := [.ref 0]) (rest := []) (v := none) (h1 := mw φ1) hC rfl rfl qC_36 rfl rfl (mo_steps_n F d φ _ (by omega) hy) ?_
  show qm_Rn (d + 1) 63 4 [.ref 0, .int x1] [] (mw φ1) _
  refine qr_s hC (n := 2) (pc' := 6) (ls' := [.ref 0, .int x1]) (st' := [.int x1, .ref 0]) (h' := mw φ1) rfl ?_
  obtain ⟨y1, φ2, hy, hs⟩ := qb2_s hs
  refine qr_c (j := 56) (as := [.ref 0, .int x1]) (rest := []) (v := some (.int y1)) (h1 := mw φ2) hC rfl rfl qC_56 rfl rfl (mo_eOf_n F d φ1 x1 _ (by omega) hy) ?_
  show qm_Rn (d + 1) 63 9 [.ref 0, .int x1] [.int y1] (mw φ2) _
  refine qr_eq1 (tgt := 40) hC rfl (by decide) rfl (fun hc => ?_) (fun hc => ?_)
  · rw [if_pos hc] at hs
    refine qr_s hC (n := 1) (pc' := 41) (ls' := [.ref 0, .int x1]) (st' := [.int 0]) (h' := mw φ2) rfl ?_
    have hs := Option.some.inj hs
    subst hs
    exact qr_r hC rfl rfl
  · rw [if_neg hc] at hs
    refine qr_s hC (n := 2) (pc' := 15) (ls' := [.ref 0, .int x1]) (st' := [.int 10, .ref 0]) (h' := mw φ2) rfl ?_
    obtain ⟨y2, φ3, hy, hs⟩ := qb2_s hs
    refine qr_c (j := 43) (as := [.ref 0, .int 10]) (rest := []) (v := some (.int y2)) (h1 := mw φ3) hC rfl rfl qC_43 rfl rfl (mo_takesOwn_n F d φ2 10 _ (by omega) hy) ?_
    show qm_Rn (d + 1) 63 18 [.ref 0, .int x1] [.int y2] (mw φ3) _
    refine qr_eq1 (tgt := 40) hC rfl (by decide) rfl (fun hc => ?_) (fun hc => ?_)
    · rw [if_pos hc] at hs
      refine qr_s hC (n := 1) (pc' := 41) (ls' := [.ref 0, .int x1]) (st' := [.int 0]) (h' := mw φ3) rfl ?_
      have hs := Option.some.inj hs
      subst hs
      exact qr_r hC rfl rfl
    · rw [if_neg hc] at hs
      refine qr_s hC (n := 2) (pc' := 23) (ls' := [.ref 0, .int x1]) (st' := [.int x1, .ref 0]) (h' := mw φ3) rfl ?_
      obtain ⟨y3, φ4, hy, hs⟩ := qb2_s hs
      refine qr_c (j := 58) (as := [.ref 0, .int x1]) (rest := []) (v := some (.int y3)) (h1 := mw φ4) hC rfl rfl qC_58 rfl rfl (mo_numbered_n F d φ3 x1 _ (by omega) hy) ?_
      show qm_Rn (d + 1) 63 26 [.ref 0, .int x1] [.int y3] (mw φ4) _
      refine qr_eq1 (tgt := 40) hC rfl (by decide) rfl (fun hc => ?_) (fun hc => ?_)
      · rw [if_pos hc] at hs
        refine qr_s hC (n := 1) (pc' := 41) (ls' := [.ref 0, .int x1]) (st' := [.int 0]) (h' := mw φ4) rfl ?_
        have hs := Option.some.inj hs
        subst hs
        exact qr_r hC rfl rfl
      · rw [if_neg hc] at hs
        refine qr_s hC (n := 1) (pc' := 30) (ls' := [.ref 0, .int x1]) (st' := [.ref 0]) (h' := mw φ4) rfl ?_
        obtain ⟨y4, φ5, hy, hs⟩ := qb2_s hs
        refine qr_c (j := 57) (as := [.ref 0]) (rest := []) (v := some (.int y4)) (h1 := mw φ5) hC rfl rfl qC_57 rfl rfl (hg 0 φ4 0 0 _ hy) ?_
        show qm_Rn (d + 1) 63 33 [.ref 0, .int x1] [.int y4] (mw φ5) _
        refine qr_eq1 (tgt := 40) hC rfl (by decide) rfl (fun hc => ?_) (fun hc => ?_)
        · rw [if_pos hc] at hs
          refine qr_s hC (n := 1) (pc' := 41) (ls' := [.ref 0, .int x1]) (st' := [.int 0]) (h' := mw φ5) rfl ?_
          have hs := Option.some.inj hs
          subst hs
          exact qr_r hC rfl rfl
        · rw [if_neg hc] at hs
          refine qr_s hC (n := 2) (pc' := 41) (ls' := [.ref 0, .int x1]) (st' := [.int 1]) (h' := mw φ5) rfl ?_
          have hs := Option.some.inj hs
          subst hs
          exact qr_r hC rfl rfl

/-- SketchFillerModel.loopHere(I)Z -/
def mo_loopHere (F : Nat) (g : Nat → qm_F → Int32 → Int32 → Option (Int32 × qm_F)) (φ : qm_F) (x1 : Int32) : Option (Int32 × qm_F) :=
  qb1 (mo_steps F φ) fun φ1 =>
  qb2 (mo_numbered F φ1 x1) fun y1 φ2 =>
  if y1 = 0 then
    some (0, φ2)
  else
    qb2 (g 0 φ2 0 0) fun y2 φ3 =>
    if y2 = 0 then
      some (0, φ3)
    else
      some (1, φ3)
set_option maxRecDepth 100000 in
theorem mo_loopHere_n (F d : Nat) (g : Nat → qm_F → Int32 → Int32 → Option (Int32 × qm_F)) (hg : ∀ t φ a b r, g t φ a b = some r → mg_S_ok (d - 1) t φ a b r) (hd : 86 ≤ d) (φ : qm_F) (x1 : Int32) (r : (Int32 × qm_F)) (hs : mo_loopHere F g φ x1 = some r) : qm_Rn d 66 0 [.ref 0, .int x1] [] (mw φ) (some (.int r.1), mw r.2) := by
  obtain ⟨d, rfl⟩ : ∃ e, d = e + 1 := ⟨d - 1, by omega⟩
  simp only [Nat.add_sub_cancel] at hg
  have hC := qC_66
  unfold mo_loopHere at hs
  refine qr_s hC (n := 1) (pc' := 1) (ls' := [.ref 0, .int x1]) (st' := [.ref 0]) (h' := mw φ) rfl ?_
  obtain ⟨φ1, hy, hs⟩ := qb1_s hs
  refine qr_c (j := 36) (as := [.ref 0]) (rest := []) (v := none) (h1 := mw φ1) hC rfl rfl qC_36 rfl rfl (mo_steps_n F d φ _ (by omega) hy) ?_
  show qm_Rn (d + 1) 66 4 [.ref 0, .int x1] [] (mw φ1) _
  refine qr_s hC (n := 2) (pc' := 6) (ls' := [.ref 0, .int x1]) (st' := [.int x1, .ref 0]) (h' := mw φ1) rfl ?_
  obtain ⟨y1, φ2, hy, hs⟩ := qb2_s hs
  refine qr_c (j := 58) (as := [.ref 0, .int x1]) (rest := []) (v := some (.int y1)) (h1 := mw φ2) hC rfl rfl qC_58 rfl rfl (mo_numbered_n F d φ1 x1 _ (by omega) hy) ?_
  show qm_Rn (d + 1) 66 9 [.ref 0, .int x1] [.int y1] (mw φ2) _
  refine qr_eq1 (tgt := 23) hC rfl (by decide) rfl (fun hc => ?_) (fun hc => ?_)
  · rw [if_pos hc] at hs
    refine qr_s hC (n := 1) (pc' := 24) (ls' := [.ref 0, .int x1]) (st' := [.int 0]) (h' := mw φ2) rfl ?_
    have hs := Option.some.inj hs
    subst hs
    exact qr_r hC rfl rfl
  · rw [if_neg hc] at hs
    refine qr_s hC (n := 1) (pc' := 13) (ls' := [.ref 0, .int x1]) (st' := [.ref 0]) (h' := mw φ2) rfl ?_
    obtain ⟨y2, φ3, hy, hs⟩ := qb2_s hs
    refine qr_c (j := 57) (as := [.ref 0]) (rest := []) (v := some (.int y2)) (h1 := mw φ3) hC rfl rfl qC_57 rfl rfl (hg 0 φ2 0 0 _ hy) ?_
    show qm_Rn (d + 1) 66 16 [.ref 0, .int x1] [.int y2] (mw φ3) _
    refine qr_eq1 (tgt := 23) hC rfl (by decide) rfl (fun hc => ?_) (fun hc => ?_)
    · rw [if_pos hc] at hs
      refine qr_s hC (n := 1) (pc' := 24) (ls' := [.ref 0, .int x1]) (st' := [.int 0]) (h' := mw φ3) rfl ?_
      have hs := Option.some.inj hs
      subst hs
      exact qr_r hC rfl rfl
    · rw [if_neg hc] at hs
      refine qr_s hC (n := 2) (pc' := 24) (ls' := [.ref 0, .int x1]) (st' := [.int 1]) (h' := mw φ3) rfl ?_
      have hs := Option.some.inj hs
      subst hs
      exact qr_r hC rfl rfl

def mg_S (F : Nat) : Nat → Nat → qm_F → Int32 → Int32 → Option (Int32 × qm_F)
  | 0, _, _, _, _ => none
  | n + 1, t, φ, a, b =>
    if t = 0 then mo_block F (mg_S F n) φ else
    if t = 1 then mo_statementHere F (mg_S F n) φ else
    if t = 2 then mo_doing F (mg_S F n) φ a b else
    if t = 3 then mo_letHere F (mg_S F n) φ a else
    if t = 4 then mo_ifHere F (mg_S F n) φ a else
    if t = 5 then mo_whileHere F (mg_S F n) φ a else
    mo_loopHere F (mg_S F n) φ a

theorem mg_S_n (F : Nat) : ∀ (n t : Nat) (φ : qm_F) (a b : Int32) (r : Int32 × qm_F) (d : Nat), 86 + n ≤ d → mg_S F n t φ a b = some r → mg_S_ok d t φ a b r := by
  intro n
  induction n with
  | zero => intro t φ a b r d hd hs; simp [mg_S] at hs
  | succ n ih =>
    intro t φ a b r d hd hs
    rw [mg_S] at hs
    have hg : ∀ t φ a b r, mg_S F n t φ a b = some r → mg_S_ok (d - 1) t φ a b r := fun t φ a b r q => ih t φ a b r (d - 1) (by omega) q
    unfold mg_S_ok
    by_cases h0 : t = 0
    · rw [if_pos h0] at hs ⊢
      exact mo_block_n F d (mg_S F n) hg (by omega) φ r hs
    rw [if_neg h0] at hs ⊢
    by_cases h1 : t = 1
    · rw [if_pos h1] at hs ⊢
      exact mo_statementHere_n F d (mg_S F n) hg (by omega) φ r hs
    rw [if_neg h1] at hs ⊢
    by_cases h2 : t = 2
    · rw [if_pos h2] at hs ⊢
      exact mo_doing_n F d (mg_S F n) hg (by omega) φ a b r hs
    rw [if_neg h2] at hs ⊢
    by_cases h3 : t = 3
    · rw [if_pos h3] at hs ⊢
      exact mo_letHere_n F d (mg_S F n) hg (by omega) φ a r hs
    rw [if_neg h3] at hs ⊢
    by_cases h4 : t = 4
    · rw [if_pos h4] at hs ⊢
      exact mo_ifHere_n F d (mg_S F n) hg (by omega) φ a r hs
    rw [if_neg h4] at hs ⊢
    by_cases h5 : t = 5
    · rw [if_pos h5] at hs ⊢
      exact mo_whileHere_n F d (mg_S F n) hg (by omega) φ a r hs
    rw [if_neg h5] at hs ⊢
    exact mo_loopHere_n F d (mg_S F n) hg (by omega) φ a r hs
/-- SketchFillerModel.tellsName(I)I -/
def mo_tellsName_L101 (F : Nat) (φ : qm_F) (x2 : Int32) (x4 : Int32) (s0 : Int32) : Option (Int32 × qm_F) :=
  qg (qm_in ((15 * (φ 0 13)) + (s0 + x4)) 30) <|
  qb1 (mo_tells F (qm_u φ 3 (((15 * (φ 0 13)) + (s0 + x4)).toNatClampNeg) (φ 0 8)) x2 (x4 + 1)) fun φ1 =>
  qb1 (mo_steps F φ1) fun φ2 =>
  some (s0 + x4, φ2)
def mo_tellsName_L59 (F : Nat) (φ : qm_F) (x1 : Int32) (x2 : Int32) (x4 : Int32) (s0 : Int32) : Option (Int32 × qm_F) :=
  qb2 (mo_must F φ s0 5) fun y1 φ1 =>
  if ¬ y1 = 0 then
    qb1 (mo_steps F φ1) fun φ2 =>
    qb2 (mo_newName F φ2) fun y2 φ3 =>
    if ¬ y2 = 0 then
      if ¬ x1 = 1 then
        if ¬ x1 = 2 then
          mo_tellsName_L101 F φ3 x2 x4 8
        else
          mo_tellsName_L101 F φ3 x2 x4 3
      else
        mo_tellsName_L101 F φ3 x2 x4 0
    else
      some ((-1), φ3)
  else
    some ((-1), φ1)
def mo_tellsName_L39 (F : Nat) (φ : qm_F) (x1 : Int32) (x2 : Int32) (s0 : Int32) : Option (Int32 × qm_F) :=
  qb1 (mo_had F φ x2) fun y1 =>
  if s0 ≤ y1 then
    mo_tellsName_L59 F φ x1 x2 y1 0
  else
    mo_tellsName_L59 F φ x1 x2 y1 1
def mo_tellsName_L19 (F : Nat) (φ : qm_F) (x1 : Int32) (s0 : Int32) : Option (Int32 × qm_F) :=
  if ¬ x1 = 1 then
    if ¬ x1 = 2 then
      mo_tellsName_L39 F φ x1 s0 4
    else
      mo_tellsName_L39 F φ x1 s0 5
  else
    mo_tellsName_L39 F φ x1 s0 3
def mo_tellsName (F : Nat) (φ : qm_F) (x1 : Int32) : Option (Int32 × qm_F) :=
  if ¬ x1 = 1 then
    if ¬ x1 = 2 then
      mo_tellsName_L19 F φ x1 3
    else
      mo_tellsName_L19 F φ x1 2
  else
    mo_tellsName_L19 F φ x1 1
set_option maxRecDepth 100000 in
theorem mo_tellsName_L101_n (F d : Nat) (hd : 4 ≤ d) (φ : qm_F) (x2 : Int32) (x4 : Int32) (s0 : Int32) (r : (Int32 × qm_F)) (hs : mo_tellsName_L101 F φ x2 x4 s0 = some r) : qm_Rn d 70 101 [.ref 0, .retAddr 0, .int x2, .retAddr 0, .int x4, .retAddr 0] [.int s0] (mw φ) (some (.int r.1), mw r.2) := by
  obtain ⟨d, rfl⟩ : ∃ e, d = e + 1 := ⟨d - 1, by omega⟩
  have hC := qC_70
  unfold mo_tellsName_L101 at hs
  refine qr_s hC (n := 13) (pc' := 124) (ls' := [.ref 0, .retAddr 0, .int x2, .retAddr 0, .int x4, .int (s0 + x4)]) (st' := [.int (φ 0 8), .int ((15 * (φ 0 13)) + (s0 + x4)), .ref 3]) (h' := mw φ) rfl ?_
  obtain ⟨hq, hs⟩ := qg_s hs
  refine qr_is (h' := mw (qm_u φ 3 (((15 * (φ 0 13)) + (s0 + x4)).toNatClampNeg) (φ 0 8))) hC rfl rfl hq rfl ?_
  refine qr_s hC (n := 5) (pc' := 131) (ls' := [.ref 0, .retAddr 0, .int x2, .retAddr 0, .int x4, .int (s0 + x4)]) (st' := [.int (x4 + 1), .int x2, .ref 0]) (h' := mw (qm_u φ 3 (((15 * (φ 0 13)) + (s0 + x4)).toNatClampNeg) (φ 0 8))) rfl ?_
  obtain ⟨φ1, hy, hs⟩ := qb1_s hs
  refine qr_c (j := 46) (as := [.ref 0, .int x2, .int (x4 + 1)]) (rest := []) (v := none) (h1 := mw φ1) hC rfl rfl qC_46 rfl rfl (mo_tells_n F d (qm_u φ 3 (((15 * (φ 0 13)) + (s0 + x4)).toNatClampNeg) (φ 0 8)) x2 (x4 + 1) _ (by omega) hy) ?_
  show qm_Rn (d + 1) 70 134 [.ref 0, .retAddr 0, .int x2, .retAddr 0, .int x4, .int (s0 + x4)] [] (mw φ1) _
  refine qr_s hC (n := 1) (pc' := 135) (ls' := [.ref 0, .retAddr 0, .int x2, .retAddr 0, .int x4, .int (s0 + x4)]) (st' := [.ref 0]) (h' := mw φ1) rfl ?_
  obtain ⟨φ2, hy, hs⟩ := qb1_s hs
  refine qr_c (j := 36) (as := [.ref 0]) (rest := []) (v := none) (h1 := mw φ2) hC rfl rfl qC_36 rfl rfl (mo_steps_n F d φ1 _ (by omega) hy) ?_
  show qm_Rn (d + 1) 70 138 [.ref 0, .retAddr 0, .int x2, .retAddr 0, .int x4, .int (s0 + x4)] [] (mw φ2) _
  refine qr_s hC (n := 1) (pc' := 140) (ls' := [.ref 0, .retAddr 0, .int x2, .retAddr 0, .int x4, .int (s0 + x4)]) (st' := [.int (s0 + x4)]) (h' := mw φ2) rfl ?_
  have hs := Option.some.inj hs
  subst hs
  exact qr_r hC rfl rfl
set_option maxRecDepth 100000 in
theorem mo_tellsName_L59_n (F d : Nat) (hd : 4 ≤ d) (φ : qm_F) (x1 : Int32) (x2 : Int32) (x4 : Int32) (s0 : Int32) (r : (Int32 × qm_F)) (hs : mo_tellsName_L59 F φ x1 x2 x4 s0 = some r) : qm_Rn d 70 59 [.ref 0, .int x1, .int x2, .retAddr 0, .int x4, .retAddr 0] [.int s0, .ref 0] (mw φ) (some (.int r.1), mw r.2) := by
  obtain ⟨d, rfl⟩ : ∃ e, d = e + 1 := ⟨d - 1, by omega⟩
  have hC := qC_70
  unfold mo_tellsName_L59 at hs
  refine qr_s hC (n := 1) (pc' := 60) (ls' := [.ref 0, .int x1, .int x2, .retAddr 0, .int x4, .retAddr 0]) (st' := [.int 5, .int s0, .ref 0]) (h' := mw φ) rfl ?_
  obtain ⟨y1, φ1, hy, hs⟩ := qb2_s hs
  refine qr_c (j := 37) (as := [.ref 0, .int s0, .int 5]) (rest := []) (v := some (.int y1)) (h1 := mw φ1) hC rfl rfl qC_37 rfl rfl (mo_must_n F d φ s0 5 _ (by omega) hy) ?_
  show qm_Rn (d + 1) 70 63 [.ref 0, .int x1, .int x2, .retAddr 0, .int x4, .retAddr 0] [.int y1] (mw φ1) _
  refine qr_ne1 (tgt := 68) hC rfl (by decide) rfl (fun hc => ?_) (fun hc => ?_)
  · rw [if_pos hc] at hs
    refine qr_s hC (n := 1) (pc' := 69) (ls' := [.ref 0, .int x1, .int x2, .retAddr 0, .int x4, .retAddr 0]) (st' := [.ref 0]) (h' := mw φ1) rfl ?_
    obtain ⟨φ2, hy, hs⟩ := qb1_s hs
    refine qr_c (j := 36) (as := [.ref 0]) (rest := []) (v := none) (h1 := mw φ2) hC rfl rfl qC_36 rfl rfl (mo_steps_n F d φ1 _ (by omega) hy) ?_
    show qm_Rn (d + 1) 70 72 [.ref 0, .int x1, .int x2, .retAddr 0, .int x4, .retAddr 0] [] (mw φ2) _
    refine qr_s hC (n := 1) (pc' := 73) (ls' := [.ref 0, .int x1, .int x2, .retAddr 0, .int x4, .retAddr 0]) (st' := [.ref 0]) (h' := mw φ2) rfl ?_
    obtain ⟨y2, φ3, hy, hs⟩ := qb2_s hs
    refine qr_c (j := 60) (as := [.ref 0]) (rest := []) (v := some (.int y2)) (h1 := mw φ3) hC rfl rfl qC_60 rfl rfl (mo_newName_n F d φ2 _ (by omega) hy) ?_
    show qm_Rn (d + 1) 70 76 [.ref 0, .int x1, .int x2, .retAddr 0, .int x4, .retAddr 0] [.int y2] (mw φ3) _
    refine qr_ne1 (tgt := 81) hC rfl (by decide) rfl (fun hc => ?_) (fun hc => ?_)
    · rw [if_pos hc] at hs
      refine qr_s hC (n := 2) (pc' := 83) (ls' := [.ref 0, .int x1, .int x2, .retAddr 0, .int x4, .retAddr 0]) (st' := [.int 1, .int x1]) (h' := mw φ3) rfl ?_
      refine qr_ne2 (tgt := 90) hC rfl (by decide) rfl (fun hc => ?_) (fun hc => ?_)
      · rw [if_pos hc] at hs
        refine qr_s hC (n := 2) (pc' := 92) (ls' := [.ref 0, .int x1, .int x2, .retAddr 0, .int x4, .retAddr 0]) (st' := [.int 2, .int x1]) (h' := mw φ3) rfl ?_
        refine qr_ne2 (tgt := 99) hC rfl (by decide) rfl (fun hc => ?_) (fun hc => ?_)
        · rw [if_pos hc] at hs
          refine qr_s hC (n := 1) (pc' := 101) (ls' := [.ref 0, .int x1, .int x2, .retAddr 0, .int x4, .retAddr 0]) (st' := [.int 8]) (h' := mw φ3) rfl ?_
          exact qr_w (a := [.ref 0, .retAddr 0, .int x2, .retAddr 0, .int x4, .retAddr 0]) ⟨Or.inr rfl, Or.inl rfl, Or.inr rfl, Or.inr rfl, Or.inr rfl, Or.inr rfl, trivial⟩ (mo_tellsName_L101_n F (d + 1) (by omega) φ3 x2 x4 8 _ hs)
        · rw [if_neg hc] at hs
          refine qr_s hC (n := 2) (pc' := 101) (ls' := [.ref 0, .int x1, .int x2, .retAddr 0, .int x4, .retAddr 0]) (st' := [.int 3]) (h' := mw φ3) rfl ?_
          exact qr_w (a := [.ref 0, .retAddr 0, .int x2, .retAddr 0, .int x4, .retAddr 0]) ⟨Or.inr rfl, Or.inl rfl, Or.inr rfl, Or.inr rfl, Or.inr rfl, Or.inr rfl, trivial⟩ (mo_tellsName_L101_n F (d + 1) (by omega) φ3 x2 x4 3 _ hs)
      · rw [if_neg hc] at hs
        refine qr_s hC (n := 2) (pc' := 101) (ls' := [.ref 0, .int x1, .int x2, .retAddr 0, .int x4, .retAddr 0]) (st' := [.int 0]) (h' := mw φ3) rfl ?_
        exact qr_w (a := [.ref 0, .retAddr 0, .int x2, .retAddr 0, .int x4, .retAddr 0]) ⟨Or.inr rfl, Or.inl rfl, Or.inr rfl, Or.inr rfl, Or.inr rfl, Or.inr rfl, trivial⟩ (mo_tellsName_L101_n F (d + 1) (by omega) φ3 x2 x4 0 _ hs)
    · rw [if_neg hc] at hs
      refine qr_s hC (n := 1) (pc' := 80) (ls' := [.ref 0, .int x1, .int x2, .retAddr 0, .int x4, .retAddr 0]) (st' := [.int (-1)]) (h' := mw φ3) rfl ?_
      have hs := Option.some.inj hs
      subst hs
      exact qr_r hC rfl rfl
  · rw [if_neg hc] at hs
    refine qr_s hC (n := 1) (pc' := 67) (ls' := [.ref 0, .int x1, .int x2, .retAddr 0, .int x4, .retAddr 0]) (st' := [.int (-1)]) (h' := mw φ1) rfl ?_
    have hs := Option.some.inj hs
    subst hs
    exact qr_r hC rfl rfl
set_option maxRecDepth 100000 in
theorem mo_tellsName_L39_n (F d : Nat) (hd : 4 ≤ d) (φ : qm_F) (x1 : Int32) (x2 : Int32) (s0 : Int32) (r : (Int32 × qm_F)) (hs : mo_tellsName_L39 F φ x1 x2 s0 = some r) : qm_Rn d 70 39 [.ref 0, .int x1, .int x2, .retAddr 0, .retAddr 0, .retAddr 0] [.int s0] (mw φ) (some (.int r.1), mw r.2) := by
  obtain ⟨d, rfl⟩ : ∃ e, d = e + 1 := ⟨d - 1, by omega⟩
  have hC := qC_70
  unfold mo_tellsName_L39 at hs
  refine qr_s hC (n := 3) (pc' := 42) (ls' := [.ref 0, .int x1, .int x2, .int s0, .retAddr 0, .retAddr 0]) (st' := [.int x2, .ref 0]) (h' := mw φ) rfl ?_
  obtain ⟨y1, hy, hs⟩ := qb1_s hs
  refine qr_c (j := 45) (as := [.ref 0, .int x2]) (rest := []) (v := some (.int y1)) (h1 := mw φ) hC rfl rfl qC_45 rfl rfl (mo_had_n F d φ x2 _ (by omega) hy) ?_
  show qm_Rn (d + 1) 70 45 [.ref 0, .int x1, .int x2, .int s0, .retAddr 0, .retAddr 0] [.int y1] (mw φ) _
  refine qr_s hC (n := 4) (pc' := 51) (ls' := [.ref 0, .int x1, .int x2, .int s0, .int y1, .retAddr 0]) (st' := [.int s0, .int y1, .ref 0]) (h' := mw φ) rfl ?_
  refine qr_ge2 (tgt := 58) hC rfl (by decide) rfl (fun hc => ?_) (fun hc => ?_)
  · rw [if_pos hc] at hs
    refine qr_s hC (n := 1) (pc' := 59) (ls' := [.ref 0, .int x1, .int x2, .int s0, .int y1, .retAddr 0]) (st' := [.int 0, .ref 0]) (h' := mw φ) rfl ?_
    exact qr_w (a := [.ref 0, .int x1, .int x2, .retAddr 0, .int y1, .retAddr 0]) ⟨Or.inr rfl, Or.inr rfl, Or.inr rfl, Or.inl rfl, Or.inr rfl, Or.inr rfl, trivial⟩ (mo_tellsName_L59_n F (d + 1) (by omega) φ x1 x2 y1 0 _ hs)
  · rw [if_neg hc] at hs
    refine qr_s hC (n := 2) (pc' := 59) (ls' := [.ref 0, .int x1, .int x2, .int s0, .int y1, .retAddr 0]) (st' := [.int 1, .ref 0]) (h' := mw φ) rfl ?_
    exact qr_w (a := [.ref 0, .int x1, .int x2, .retAddr 0, .int y1, .retAddr 0]) ⟨Or.inr rfl, Or.inr rfl, Or.inr rfl, Or.inl rfl, Or.inr rfl, Or.inr rfl, trivial⟩ (mo_tellsName_L59_n F (d + 1) (by omega) φ x1 x2 y1 1 _ hs)
set_option maxRecDepth 100000 in
theorem mo_tellsName_L19_n (F d : Nat) (hd : 4 ≤ d) (φ : qm_F) (x1 : Int32) (s0 : Int32) (r : (Int32 × qm_F)) (hs : mo_tellsName_L19 F φ x1 s0 = some r) : qm_Rn d 70 19 [.ref 0, .int x1, .retAddr 0, .retAddr 0, .retAddr 0, .retAddr 0] [.int s0] (mw φ) (some (.int r.1), mw r.2) := by
  obtain ⟨d, rfl⟩ : ∃ e, d = e + 1 := ⟨d - 1, by omega⟩
  have hC := qC_70
  unfold mo_tellsName_L19 at hs
  refine qr_s hC (n := 3) (pc' := 22) (ls' := [.ref 0, .int x1, .int s0, .retAddr 0, .retAddr 0, .retAddr 0]) (st' := [.int 1, .int x1]) (h' := mw φ) rfl ?_
  refine qr_ne2 (tgt := 29) hC rfl (by decide) rfl (fun hc => ?_) (fun hc => ?_)
  · rw [if_pos hc] at hs
    refine qr_s hC (n := 2) (pc' := 31) (ls' := [.ref 0, .int x1, .int s0, .retAddr 0, .retAddr 0, .retAddr 0]) (st' := [.int 2, .int x1]) (h' := mw φ) rfl ?_
    refine qr_ne2 (tgt := 38) hC rfl (by decide) rfl (fun hc => ?_) (fun hc => ?_)
    · rw [if_pos hc] at hs
      refine qr_s hC (n := 1) (pc' := 39) (ls' := [.ref 0, .int x1, .int s0, .retAddr 0, .retAddr 0, .retAddr 0]) (st' := [.int 4]) (h' := mw φ) rfl ?_
      exact mo_tellsName_L39_n F (d + 1) (by omega) φ x1 s0 4 _ hs
    · rw [if_neg hc] at hs
      refine qr_s hC (n := 2) (pc' := 39) (ls' := [.ref 0, .int x1, .int s0, .retAddr 0, .retAddr 0, .retAddr 0]) (st' := [.int 5]) (h' := mw φ) rfl ?_
      exact mo_tellsName_L39_n F (d + 1) (by omega) φ x1 s0 5 _ hs
  · rw [if_neg hc] at hs
    refine qr_s hC (n := 2) (pc' := 39) (ls' := [.ref 0, .int x1, .int s0, .retAddr 0, .retAddr 0, .retAddr 0]) (st' := [.int 3]) (h' := mw φ) rfl ?_
    exact mo_tellsName_L39_n F (d + 1) (by omega) φ x1 s0 3 _ hs
set_option maxRecDepth 100000 in
theorem mo_tellsName_n (F d : Nat) (φ : qm_F) (x1 : Int32) (r : (Int32 × qm_F)) (hd : 4 ≤ d) (hs : mo_tellsName F φ x1 = some r) : qm_Rn d 70 0 [.ref 0, .int x1, .retAddr 0, .retAddr 0, .retAddr 0, .retAddr 0] [] (mw φ) (some (.int r.1), mw r.2) := by
  obtain ⟨d, rfl⟩ : ∃ e, d = e + 1 := ⟨d - 1, by omega⟩
  have hC := qC_70
  unfold mo_tellsName at hs
  refine qr_s hC (n := 2) (pc' := 2) (ls' := [.ref 0, .int x1, .retAddr 0, .retAddr 0, .retAddr 0, .retAddr 0]) (st' := [.int 1, .int x1]) (h' := mw φ) rfl ?_
  refine qr_ne2 (tgt := 9) hC rfl (by decide) rfl (fun hc => ?_) (fun hc => ?_)
  · rw [if_pos hc] at hs
    refine qr_s hC (n := 2) (pc' := 11) (ls' := [.ref 0, .int x1, .retAddr 0, .retAddr 0, .retAddr 0, .retAddr 0]) (st' := [.int 2, .int x1]) (h' := mw φ) rfl ?_
    refine qr_ne2 (tgt := 18) hC rfl (by decide) rfl (fun hc => ?_) (fun hc => ?_)
    · rw [if_pos hc] at hs
      refine qr_s hC (n := 1) (pc' := 19) (ls' := [.ref 0, .int x1, .retAddr 0, .retAddr 0, .retAddr 0, .retAddr 0]) (st' := [.int 3]) (h' := mw φ) rfl ?_
      exact mo_tellsName_L19_n F (d + 1) (by omega) φ x1 3 _ hs
    · rw [if_neg hc] at hs
      refine qr_s hC (n := 2) (pc' := 19) (ls' := [.ref 0, .int x1, .retAddr 0, .retAddr 0, .retAddr 0, .retAddr 0]) (st' := [.int 2]) (h' := mw φ) rfl ?_
      exact mo_tellsName_L19_n F (d + 1) (by omega) φ x1 2 _ hs
  · rw [if_neg hc] at hs
    refine qr_s hC (n := 2) (pc' := 19) (ls' := [.ref 0, .int x1, .retAddr 0, .retAddr 0, .retAddr 0, .retAddr 0]) (st' := [.int 1]) (h' := mw φ) rfl ?_
    exact mo_tellsName_L19_n F (d + 1) (by omega) φ x1 1 _ hs
/-- SketchFillerModel.line()Z -/
def mo_line_L221 (F : Nat) (φ : qm_F) : Option (Int32 × qm_F) :=
  qb2 (mo_takesSign F φ 59) fun y1 φ1 =>
  qg (qm_bz y1) (some (y1, φ1))
def mo_line_L134 (F : Nat) (φ : qm_F) (x1 : Int32) (x3 : Int32) (x4 : Int32) (s0 : Int32) : Option (Int32 × qm_F) :=
  qb2 (mo_must F φ s0 5) fun y1 φ1 =>
  if ¬ y1 = 0 then
    qg (qm_in x4 30) <|
    qg (qm_in x4 30) <|
    qb1 (mo_had F (qm_u (qm_u φ1 4 x4.toNatClampNeg (φ1 0 7)) 5 x4.toNatClampNeg 1) x3) fun y2 =>
    qb1 (mo_tells F (qm_u (qm_u φ1 4 x4.toNatClampNeg (φ1 0 7)) 5 x4.toNatClampNeg 1) x3 (y2 + (φ1 0 7))) fun φ2 =>
    qb1 (mo_steps F φ2) fun φ3 =>
    if ¬ x1 = 2 then
      mo_line_L221 F φ3
    else
      qb1 (mo_own F φ3) fun y3 =>
      if ¬ y3 = 3 then
        mo_line_L221 F φ3
      else
        qb1 (mo_steps F φ3) fun φ4 =>
        qb2 (mo_takesNumber F φ4 0 9) fun y4 φ5 =>
        if ¬ y4 = 0 then
          qg (qm_in x4 30) <|
          mo_line_L221 F (qm_u φ5 5 x4.toNatClampNeg (φ5 0 11))
        else
          some (0, φ5)
  else
    some (0, φ1)
def mo_line_L106 (F : Nat) (φ : qm_F) (x1 : Int32) (x3 : Int32) (x4 : Int32) (s0 : Int32) : Option (Int32 × qm_F) :=
  qb2 (mo_must F φ s0 4) fun y1 φ1 =>
  if y1 = 0 then
    some (0, φ1)
  else
    qb1 (mo_had F φ1 x3) fun y2 =>
    if 7 < (y2 + (φ1 0 7)) then
      mo_line_L134 F φ1 x1 x3 x4 0
    else
      mo_line_L134 F φ1 x1 x3 x4 1
def mo_line_L105 (F : Nat) (φ : qm_F) (x1 : Int32) (x3 : Int32) (x4 : Int32) : Option (Int32 × qm_F) :=
  mo_line_L106 F φ x1 x3 x4 0
def mo_line_L66 (F : Nat) (φ : qm_F) (x1 : Int32) (x3 : Int32) (x4 : Int32) (s0 : Int32) : Option (Int32 × qm_F) :=
  qb2 (mo_must F φ s0 1) fun y1 φ1 =>
  if y1 = 0 then
    some (0, φ1)
  else
    qb1 (mo_within F φ1 (Int32.toInt64 (φ1 0 7)) 1 6) fun y2 =>
    if y2 = 0 then
      mo_line_L105 F φ1 x1 x3 x4
    else
      qb1 (mo_had F φ1 0) fun y3 =>
      if y3 < (φ1 0 7) then
        mo_line_L105 F φ1 x1 x3 x4
      else
        mo_line_L106 F φ1 x1 x3 x4 1
def mo_line_L40 (F : Nat) (φ : qm_F) (x1 : Int32) (x2 : Int32) (s0 : Int32) : Option (Int32 × qm_F) :=
  if ¬ (φ 0 6) = 2 then
    mo_line_L66 F φ x1 s0 ((15 * (φ 0 13)) + x2) 0
  else
    mo_line_L66 F φ x1 s0 ((15 * (φ 0 13)) + x2) 1
def mo_line (F : Nat) (φ : qm_F) : Option (Int32 × qm_F) :=
  qb1 (mo_own F φ) fun y1 =>
  qb2 (mo_tellsName F φ y1) fun y2 φ1 =>
  if 0 ≤ y2 then
    if ¬ y1 = 4 then
      if ¬ y1 = 1 then
        mo_line_L40 F φ1 y1 y2 6
      else
        mo_line_L40 F φ1 y1 y2 5
    else
      qb2 (mo_takesSign F φ1 59) fun y3 φ2 =>
      qg (qm_bz y3) (some (y3, φ2))
  else
    some (0, φ1)
set_option maxRecDepth 100000 in
theorem mo_line_L221_n (F d : Nat) (hd : 5 ≤ d) (φ : qm_F) (r : (Int32 × qm_F)) (hs : mo_line_L221 F φ = some r) : qm_Rn d 71 221 [.ref 0, .retAddr 0, .retAddr 0, .retAddr 0, .retAddr 0] [] (mw φ) (some (.int r.1), mw r.2) := by
  obtain ⟨d, rfl⟩ : ∃ e, d = e + 1 := ⟨d - 1, by omega⟩
  have hC := qC_71
  unfold mo_line_L221 at hs
  refine qr_s hC (n := 2) (pc' := 224) (ls' := [.ref 0, .retAddr 0, .retAddr 0, .retAddr 0, .retAddr 0]) (st' := [.int 59, .ref 0]) (h' := mw φ) rfl ?_
  obtain ⟨y1, φ1, hy, hs⟩ := qb2_s hs
  refine qr_c (j := 42) (as := [.ref 0, .int 59]) (rest := []) (v := some (.int y1)) (h1 := mw φ1) hC rfl rfl qC_42 rfl rfl (mo_takesSign_n F d φ 59 _ (by omega) hy) ?_
  show qm_Rn (d + 1) 71 227 [.ref 0, .retAddr 0, .retAddr 0, .retAddr 0, .retAddr 0] [.int y1] (mw φ1) _
  obtain ⟨hz, hs⟩ := qg_s hs
  have hs := Option.some.inj hs
  subst hs
  exact qr_rz hC rfl hz
set_option maxRecDepth 100000 in
theorem mo_line_L134_n (F d : Nat) (hd : 5 ≤ d) (φ : qm_F) (x1 : Int32) (x3 : Int32) (x4 : Int32) (s0 : Int32) (r : (Int32 × qm_F)) (hs : mo_line_L134 F φ x1 x3 x4 s0 = some r) : qm_Rn d 71 134 [.ref 0, .int x1, .retAddr 0, .int x3, .int x4] [.int s0, .ref 0] (mw φ) (some (.int r.1), mw r.2) := by
  obtain ⟨d, rfl⟩ : ∃ e, d = e + 1 := ⟨d - 1, by omega⟩
  have hC := qC_71
  unfold mo_line_L134 at hs
  refine qr_s hC (n := 1) (pc' := 135) (ls' := [.ref 0, .int x1, .retAddr 0, .int x3, .int x4]) (st' := [.int 5, .int s0, .ref 0]) (h' := mw φ) rfl ?_
  obtain ⟨y1, φ1, hy, hs⟩ := qb2_s hs
  refine qr_c (j := 37) (as := [.ref 0, .int s0, .int 5]) (rest := []) (v := some (.int y1)) (h1 := mw φ1) hC rfl rfl qC_37 rfl rfl (mo_must_n F d φ s0 5 _ (by omega) hy) ?_
  show qm_Rn (d + 1) 71 138 [.ref 0, .int x1, .retAddr 0, .int x3, .int x4] [.int y1] (mw φ1) _
  refine qr_ne1 (tgt := 143) hC rfl (by decide) rfl (fun hc => ?_) (fun hc => ?_)
  · rw [if_pos hc] at hs
    refine qr_s hC (n := 5) (pc' := 153) (ls' := [.ref 0, .int x1, .retAddr 0, .int x3, .int x4]) (st' := [.int (φ1 0 7), .int x4, .ref 4]) (h' := mw φ1) rfl ?_
    obtain ⟨hq, hs⟩ := qg_s hs
    refine qr_is (h' := mw (qm_u φ1 4 x4.toNatClampNeg (φ1 0 7))) hC rfl rfl hq rfl ?_
    refine qr_s hC (n := 4) (pc' := 161) (ls' := [.ref 0, .int x1, .retAddr 0, .int x3, .int x4]) (st' := [.int 1, .int x4, .ref 5]) (h' := mw (qm_u φ1 4 x4.toNatClampNeg (φ1 0 7))) rfl ?_
    obtain ⟨hq, hs⟩ := qg_s hs
    refine qr_is (h' := mw (qm_u (qm_u φ1 4 x4.toNatClampNeg (φ1 0 7)) 5 x4.toNatClampNeg 1)) hC rfl rfl hq rfl ?_
    refine qr_s hC (n := 4) (pc' := 166) (ls' := [.ref 0, .int x1, .retAddr 0, .int x3, .int x4]) (st' := [.int x3, .ref 0, .int x3, .ref 0]) (h' := mw (qm_u (qm_u φ1 4 x4.toNatClampNeg (φ1 0 7)) 5 x4.toNatClampNeg 1)) rfl ?_
    obtain ⟨y2, hy, hs⟩ := qb1_s hs
    refine qr_c (j := 45) (as := [.ref 0, .int x3]) (rest := [.int x3, .ref 0]) (v := some (.int y2)) (h1 := mw (qm_u (qm_u φ1 4 x4.toNatClampNeg (φ1 0 7)) 5 x4.toNatClampNeg 1)) hC rfl rfl qC_45 rfl rfl (mo_had_n F d (qm_u (qm_u φ1 4 x4.toNatClampNeg (φ1 0 7)) 5 x4.toNatClampNeg 1) x3 _ (by omega) hy) ?_
    show qm_Rn (d + 1) 71 169 [.ref 0, .int x1, .retAddr 0, .int x3, .int x4] [.int y2, .int x3, .ref 0] (mw (qm_u (qm_u φ1 4 x4.toNatClampNeg (φ1 0 7)) 5 x4.toNatClampNeg 1)) _
    refine qr_s hC (n := 3) (pc' := 174) (ls' := [.ref 0, .int x1, .retAddr 0, .int x3, .int x4]) (st' := [.int (y2 + (φ1 0 7)), .int x3, .ref 0]) (h' := mw (qm_u (qm_u φ1 4 x4.toNatClampNeg (φ1 0 7)) 5 x4.toNatClampNeg 1)) rfl ?_
    obtain ⟨φ2, hy, hs⟩ := qb1_s hs
    refine qr_c (j := 46) (as := [.ref 0, .int x3, .int (y2 + (φ1 0 7))]) (rest := []) (v := none) (h1 := mw φ2) hC rfl rfl qC_46 rfl rfl (mo_tells_n F d (qm_u (qm_u φ1 4 x4.toNatClampNeg (φ1 0 7)) 5 x4.toNatClampNeg 1) x3 (y2 + (φ1 0 7)) _ (by omega) hy) ?_
    show qm_Rn (d + 1) 71 177 [.ref 0, .int x1, .retAddr 0, .int x3, .int x4] [] (mw φ2) _
    refine qr_s hC (n := 1) (pc' := 178) (ls' := [.ref 0, .int x1, .retAddr 0, .int x3, .int x4]) (st' := [.ref 0]) (h' := mw φ2) rfl ?_
    obtain ⟨φ3, hy, hs⟩ := qb1_s hs
    refine qr_c (j := 36) (as := [.ref 0]) (rest := []) (v := none) (h1 := mw φ3) hC rfl rfl qC_36 rfl rfl (mo_steps_n F d φ2 _ (by omega) hy) ?_
    show qm_Rn (d + 1) 71 181 [.ref 0, .int x1, .retAddr 0, .int x3, .int x4] [] (mw φ3) _
    refine qr_s hC (n := 2) (pc' := 183) (ls' := [.ref 0, .int x1, .retAddr 0, .int x3, .int x4]) (st' := [.int 2, .int x1]) (h' := mw φ3) rfl ?_
    refine qr_ne2 (tgt := 221) hC rfl (by decide) rfl (fun hc => ?_) (fun hc => ?_)
    · rw [if_pos hc] at hs
      exact qr_w (a := [.ref 0, .retAddr 0, .retAddr 0, .retAddr 0, .retAddr 0]) ⟨Or.inr rfl, Or.inl rfl, Or.inr rfl, Or.inl rfl, Or.inl rfl, trivial⟩ (mo_line_L221_n F (d + 1) (by omega) φ3 _ hs)
    · rw [if_neg hc] at hs
      refine qr_s hC (n := 1) (pc' := 187) (ls' := [.ref 0, .int x1, .retAddr 0, .int x3, .int x4]) (st' := [.ref 0]) (h' := mw φ3) rfl ?_
      obtain ⟨y3, hy, hs⟩ := qb1_s hs
      refine qr_c (j := 40) (as := [.ref 0]) (rest := []) (v := some (.int y3)) (h1 := mw φ3) hC rfl rfl qC_40 rfl rfl (mo_own_n F d φ3 _ (by omega) hy) ?_
      show qm_Rn (d + 1) 71 190 [.ref 0, .int x1, .retAddr 0, .int x3, .int x4] [.int y3] (mw φ3) _
      refine qr_s hC (n := 1) (pc' := 191) (ls' := [.ref 0, .int x1, .retAddr 0, .int x3, .int x4]) (st' := [.int 3, .int y3]) (h' := mw φ3) rfl ?_
      refine qr_ne2 (tgt := 221) hC rfl (by decide) rfl (fun hc => ?_) (fun hc => ?_)
      · rw [if_pos hc] at hs
        exact qr_w (a := [.ref 0, .retAddr 0, .retAddr 0, .retAddr 0, .retAddr 0]) ⟨Or.inr rfl, Or.inl rfl, Or.inr rfl, Or.inl rfl, Or.inl rfl, trivial⟩ (mo_line_L221_n F (d + 1) (by omega) φ3 _ hs)
      · rw [if_neg hc] at hs
        refine qr_s hC (n := 1) (pc' := 195) (ls' := [.ref 0, .int x1, .retAddr 0, .int x3, .int x4]) (st' := [.ref 0]) (h' := mw φ3) rfl ?_
        obtain ⟨φ4, hy, hs⟩ := qb1_s hs
        refine qr_c (j := 36) (as := [.ref 0]) (rest := []) (v := none) (h1 := mw φ4) hC rfl rfl qC_36 rfl rfl (mo_steps_n F d φ3 _ (by omega) hy) ?_
        show qm_Rn (d + 1) 71 198 [.ref 0, .int x1, .retAddr 0, .int x3, .int x4] [] (mw φ4) _
        refine qr_s hC (n := 3) (pc' := 202) (ls' := [.ref 0, .int x1, .retAddr 0, .int x3, .int x4]) (st' := [.int 9, .int 0, .ref 0]) (h' := mw φ4) rfl ?_
        obtain ⟨y4, φ5, hy, hs⟩ := qb2_s hs
        refine qr_c (j := 44) (as := [.ref 0, .int 0, .int 9]) (rest := []) (v := some (.int y4)) (h1 := mw φ5) hC rfl rfl qC_44 rfl rfl (mo_takesNumber_n F d φ4 0 9 _ (by omega) hy) ?_
        show qm_Rn (d + 1) 71 205 [.ref 0, .int x1, .retAddr 0, .int x3, .int x4] [.int y4] (mw φ5) _
        refine qr_ne1 (tgt := 210) hC rfl (by decide) rfl (fun hc => ?_) (fun hc => ?_)
        · rw [if_pos hc] at hs
          refine qr_s hC (n := 5) (pc' := 220) (ls' := [.ref 0, .int x1, .retAddr 0, .int x3, .int x4]) (st' := [.int (φ5 0 11), .int x4, .ref 5]) (h' := mw φ5) rfl ?_
          obtain ⟨hq, hs⟩ := qg_s hs
          refine qr_is (h' := mw (qm_u φ5 5 x4.toNatClampNeg (φ5 0 11))) hC rfl rfl hq rfl ?_
          exact qr_w (a := [.ref 0, .retAddr 0, .retAddr 0, .retAddr 0, .retAddr 0]) ⟨Or.inr rfl, Or.inl rfl, Or.inr rfl, Or.inl rfl, Or.inl rfl, trivial⟩ (mo_line_L221_n F (d + 1) (by omega) (qm_u φ5 5 x4.toNatClampNeg (φ5 0 11)) _ hs)
        · rw [if_neg hc] at hs
          refine qr_s hC (n := 1) (pc' := 209) (ls' := [.ref 0, .int x1, .retAddr 0, .int x3, .int x4]) (st' := [.int 0]) (h' := mw φ5) rfl ?_
          have hs := Option.some.inj hs
          subst hs
          exact qr_r hC rfl rfl
  · rw [if_neg hc] at hs
    refine qr_s hC (n := 1) (pc' := 142) (ls' := [.ref 0, .int x1, .retAddr 0, .int x3, .int x4]) (st' := [.int 0]) (h' := mw φ1) rfl ?_
    have hs := Option.some.inj hs
    subst hs
    exact qr_r hC rfl rfl
set_option maxRecDepth 100000 in
theorem mo_line_L106_n (F d : Nat) (hd : 5 ≤ d) (φ : qm_F) (x1 : Int32) (x3 : Int32) (x4 : Int32) (s0 : Int32) (r : (Int32 × qm_F)) (hs : mo_line_L106 F φ x1 x3 x4 s0 = some r) : qm_Rn d 71 106 [.ref 0, .int x1, .retAddr 0, .int x3, .int x4] [.int s0, .ref 0] (mw φ) (some (.int r.1), mw r.2) := by
  obtain ⟨d, rfl⟩ : ∃ e, d = e + 1 := ⟨d - 1, by omega⟩
  have hC := qC_71
  unfold mo_line_L106 at hs
  refine qr_s hC (n := 1) (pc' := 107) (ls' := [.ref 0, .int x1, .retAddr 0, .int x3, .int x4]) (st' := [.int 4, .int s0, .ref 0]) (h' := mw φ) rfl ?_
  obtain ⟨y1, φ1, hy, hs⟩ := qb2_s hs
  refine qr_c (j := 37) (as := [.ref 0, .int s0, .int 4]) (rest := []) (v := some (.int y1)) (h1 := mw φ1) hC rfl rfl qC_37 rfl rfl (mo_must_n F d φ s0 4 _ (by omega) hy) ?_
  show qm_Rn (d + 1) 71 110 [.ref 0, .int x1, .retAddr 0, .int x3, .int x4] [.int y1] (mw φ1) _
  refine qr_eq1 (tgt := 141) hC rfl (by decide) rfl (fun hc => ?_) (fun hc => ?_)
  · rw [if_pos hc] at hs
    refine qr_s hC (n := 1) (pc' := 142) (ls' := [.ref 0, .int x1, .retAddr 0, .int x3, .int x4]) (st' := [.int 0]) (h' := mw φ1) rfl ?_
    have hs := Option.some.inj hs
    subst hs
    exact qr_r hC rfl rfl
  · rw [if_neg hc] at hs
    refine qr_s hC (n := 3) (pc' := 116) (ls' := [.ref 0, .int x1, .retAddr 0, .int x3, .int x4]) (st' := [.int x3, .ref 0, .ref 0]) (h' := mw φ1) rfl ?_
    obtain ⟨y2, hy, hs⟩ := qb1_s hs
    refine qr_c (j := 45) (as := [.ref 0, .int x3]) (rest := [.ref 0]) (v := some (.int y2)) (h1 := mw φ1) hC rfl rfl qC_45 rfl rfl (mo_had_n F d φ1 x3 _ (by omega) hy) ?_
    show qm_Rn (d + 1) 71 119 [.ref 0, .int x1, .retAddr 0, .int x3, .int x4] [.int y2, .ref 0] (mw φ1) _
    refine qr_s hC (n := 4) (pc' := 126) (ls' := [.ref 0, .int x1, .retAddr 0, .int x3, .int x4]) (st' := [.int 7, .int (y2 + (φ1 0 7)), .ref 0]) (h' := mw φ1) rfl ?_
    refine qr_gt2 (tgt := 133) hC rfl (by decide) rfl (fun hc => ?_) (fun hc => ?_)
    · rw [if_pos hc] at hs
      refine qr_s hC (n := 1) (pc' := 134) (ls' := [.ref 0, .int x1, .retAddr 0, .int x3, .int x4]) (st' := [.int 0, .ref 0]) (h' := mw φ1) rfl ?_
      exact mo_line_L134_n F (d + 1) (by omega) φ1 x1 x3 x4 0 _ hs
    · rw [if_neg hc] at hs
      refine qr_s hC (n := 2) (pc' := 134) (ls' := [.ref 0, .int x1, .retAddr 0, .int x3, .int x4]) (st' := [.int 1, .ref 0]) (h' := mw φ1) rfl ?_
      exact mo_line_L134_n F (d + 1) (by omega) φ1 x1 x3 x4 1 _ hs
set_option maxRecDepth 100000 in
theorem mo_line_L105_n (F d : Nat) (hd : 5 ≤ d) (φ : qm_F) (x1 : Int32) (x3 : Int32) (x4 : Int32) (r : (Int32 × qm_F)) (hs : mo_line_L105 F φ x1 x3 x4 = some r) : qm_Rn d 71 105 [.ref 0, .int x1, .retAddr 0, .int x3, .int x4] [.ref 0] (mw φ) (some (.int r.1), mw r.2) := by
  obtain ⟨d, rfl⟩ : ∃ e, d = e + 1 := ⟨d - 1, by omega⟩
  have hC := qC_71
  unfold mo_line_L105 at hs
  refine qr_s hC (n := 1) (pc' := 106) (ls' := [.ref 0, .int x1, .retAddr 0, .int x3, .int x4]) (st' := [.int 0, .ref 0]) (h' := mw φ) rfl ?_
  exact mo_line_L106_n F (d + 1) (by omega) φ x1 x3 x4 0 _ hs
set_option maxRecDepth 100000 in
theorem mo_line_L66_n (F d : Nat) (hd : 5 ≤ d) (φ : qm_F) (x1 : Int32) (x3 : Int32) (x4 : Int32) (s0 : Int32) (r : (Int32 × qm_F)) (hs : mo_line_L66 F φ x1 x3 x4 s0 = some r) : qm_Rn d 71 66 [.ref 0, .int x1, .retAddr 0, .int x3, .int x4] [.int s0, .ref 0] (mw φ) (some (.int r.1), mw r.2) := by
  obtain ⟨d, rfl⟩ : ∃ e, d = e + 1 := ⟨d - 1, by omega⟩
  have hC := qC_71
  unfold mo_line_L66 at hs
  refine qr_s hC (n := 1) (pc' := 67) (ls' := [.ref 0, .int x1, .retAddr 0, .int x3, .int x4]) (st' := [.int 1, .int s0, .ref 0]) (h' := mw φ) rfl ?_
  obtain ⟨y1, φ1, hy, hs⟩ := qb2_s hs
  refine qr_c (j := 37) (as := [.ref 0, .int s0, .int 1]) (rest := []) (v := some (.int y1)) (h1 := mw φ1) hC rfl rfl qC_37 rfl rfl (mo_must_n F d φ s0 1 _ (by omega) hy) ?_
  show qm_Rn (d + 1) 71 70 [.ref 0, .int x1, .retAddr 0, .int x3, .int x4] [.int y1] (mw φ1) _
  refine qr_eq1 (tgt := 141) hC rfl (by decide) rfl (fun hc => ?_) (fun hc => ?_)
  · rw [if_pos hc] at hs
    refine qr_s hC (n := 1) (pc' := 142) (ls' := [.ref 0, .int x1, .retAddr 0, .int x3, .int x4]) (st' := [.int 0]) (h' := mw φ1) rfl ?_
    have hs := Option.some.inj hs
    subst hs
    exact qr_r hC rfl rfl
  · rw [if_neg hc] at hs
    refine qr_s hC (n := 6) (pc' := 83) (ls' := [.ref 0, .int x1, .retAddr 0, .int x3, .int x4]) (st' := [.long 6, .long 1, .long (Int32.toInt64 (φ1 0 7)), .ref 0]) (h' := mw φ1) rfl ?_
    obtain ⟨y2, hy, hs⟩ := qb1_s hs
    refine qr_c (j := 31) (as := [.long (Int32.toInt64 (φ1 0 7)), .long 1, .long 6]) (rest := [.ref 0]) (v := some (.int y2)) (h1 := mw φ1) hC rfl rfl qC_31 rfl rfl (mo_within_n F d φ1 (Int32.toInt64 (φ1 0 7)) 1 6 _ (by omega) hy) ?_
    show qm_Rn (d + 1) 71 86 [.ref 0, .int x1, .retAddr 0, .int x3, .int x4] [.int y2, .ref 0] (mw φ1) _
    refine qr_eq1 (tgt := 105) hC rfl (by decide) rfl (fun hc => ?_) (fun hc => ?_)
    · rw [if_pos hc] at hs
      exact mo_line_L105_n F (d + 1) (by omega) φ1 x1 x3 x4 _ hs
    · rw [if_neg hc] at hs
      refine qr_s hC (n := 4) (pc' := 95) (ls' := [.ref 0, .int x1, .retAddr 0, .int x3, .int x4]) (st' := [.int 0, .ref 0, .int (φ1 0 7), .ref 0]) (h' := mw φ1) rfl ?_
      obtain ⟨y3, hy, hs⟩ := qb1_s hs
      refine qr_c (j := 45) (as := [.ref 0, .int 0]) (rest := [.int (φ1 0 7), .ref 0]) (v := some (.int y3)) (h1 := mw φ1) hC rfl rfl qC_45 rfl rfl (mo_had_n F d φ1 0 _ (by omega) hy) ?_
      show qm_Rn (d + 1) 71 98 [.ref 0, .int x1, .retAddr 0, .int x3, .int x4] [.int y3, .int (φ1 0 7), .ref 0] (mw φ1) _
      refine qr_gt2 (tgt := 105) hC rfl (by decide) rfl (fun hc => ?_) (fun hc => ?_)
      · rw [if_pos hc] at hs
        exact mo_line_L105_n F (d + 1) (by omega) φ1 x1 x3 x4 _ hs
      · rw [if_neg hc] at hs
        refine qr_s hC (n := 2) (pc' := 106) (ls' := [.ref 0, .int x1, .retAddr 0, .int x3, .int x4]) (st' := [.int 1, .ref 0]) (h' := mw φ1) rfl ?_
        exact mo_line_L106_n F (d + 1) (by omega) φ1 x1 x3 x4 1 _ hs
set_option maxRecDepth 100000 in
theorem mo_line_L40_n (F d : Nat) (hd : 5 ≤ d) (φ : qm_F) (x1 : Int32) (x2 : Int32) (s0 : Int32) (r : (Int32 × qm_F)) (hs : mo_line_L40 F φ x1 x2 s0 = some r) : qm_Rn d 71 40 [.ref 0, .int x1, .int x2, .retAddr 0, .retAddr 0] [.int s0] (mw φ) (some (.int r.1), mw r.2) := by
  obtain ⟨d, rfl⟩ : ∃ e, d = e + 1 := ⟨d - 1, by omega⟩
  have hC := qC_71
  unfold mo_line_L40 at hs
  refine qr_s hC (n := 12) (pc' := 58) (ls' := [.ref 0, .int x1, .int x2, .int s0, .int ((15 * (φ 0 13)) + x2)]) (st' := [.int 2, .int (φ 0 6), .ref 0]) (h' := mw φ) rfl ?_
  refine qr_ne2 (tgt := 65) hC rfl (by decide) rfl (fun hc => ?_) (fun hc => ?_)
  · rw [if_pos hc] at hs
    refine qr_s hC (n := 1) (pc' := 66) (ls' := [.ref 0, .int x1, .int x2, .int s0, .int ((15 * (φ 0 13)) + x2)]) (st' := [.int 0, .ref 0]) (h' := mw φ) rfl ?_
    exact qr_w (a := [.ref 0, .int x1, .retAddr 0, .int s0, .int ((15 * (φ 0 13)) + x2)]) ⟨Or.inr rfl, Or.inr rfl, Or.inl rfl, Or.inr rfl, Or.inr rfl, trivial⟩ (mo_line_L66_n F (d + 1) (by omega) φ x1 s0 ((15 * (φ 0 13)) + x2) 0 _ hs)
  · rw [if_neg hc] at hs
    refine qr_s hC (n := 2) (pc' := 66) (ls' := [.ref 0, .int x1, .int x2, .int s0, .int ((15 * (φ 0 13)) + x2)]) (st' := [.int 1, .ref 0]) (h' := mw φ) rfl ?_
    exact qr_w (a := [.ref 0, .int x1, .retAddr 0, .int s0, .int ((15 * (φ 0 13)) + x2)]) ⟨Or.inr rfl, Or.inr rfl, Or.inl rfl, Or.inr rfl, Or.inr rfl, trivial⟩ (mo_line_L66_n F (d + 1) (by omega) φ x1 s0 ((15 * (φ 0 13)) + x2) 1 _ hs)
set_option maxRecDepth 100000 in
theorem mo_line_n (F d : Nat) (φ : qm_F) (r : (Int32 × qm_F)) (hd : 5 ≤ d) (hs : mo_line F φ = some r) : qm_Rn d 71 0 [.ref 0, .retAddr 0, .retAddr 0, .retAddr 0, .retAddr 0] [] (mw φ) (some (.int r.1), mw r.2) := by
  obtain ⟨d, rfl⟩ : ∃ e, d = e + 1 := ⟨d - 1, by omega⟩
  have hC := qC_71
  unfold mo_line at hs
  refine qr_s hC (n := 1) (pc' := 1) (ls' := [.ref 0, .retAddr 0, .retAddr 0, .retAddr 0, .retAddr 0]) (st' := [.ref 0]) (h' := mw φ) rfl ?_
  obtain ⟨y1, hy, hs⟩ := qb1_s hs
  refine qr_c (j := 40) (as := [.ref 0]) (rest := []) (v := some (.int y1)) (h1 := mw φ) hC rfl rfl qC_40 rfl rfl (mo_own_n F d φ _ (by omega) hy) ?_
  show qm_Rn (d + 1) 71 4 [.ref 0, .retAddr 0, .retAddr 0, .retAddr 0, .retAddr 0] [.int y1] (mw φ) _
  refine qr_s hC (n := 3) (pc' := 7) (ls' := [.ref 0, .int y1, .retAddr 0, .retAddr 0, .retAddr 0]) (st' := [.int y1, .ref 0]) (h' := mw φ) rfl ?_
  obtain ⟨y2, φ1, hy, hs⟩ := qb2_s hs
  refine qr_c (j := 70) (as := [.ref 0, .int y1]) (rest := []) (v := some (.int y2)) (h1 := mw φ1) hC rfl rfl qC_70 rfl rfl (mo_tellsName_n F d φ y1 _ (by omega) hy) ?_
  show qm_Rn (d + 1) 71 10 [.ref 0, .int y1, .retAddr 0, .retAddr 0, .retAddr 0] [.int y2] (mw φ1) _
  refine qr_s hC (n := 2) (pc' := 12) (ls' := [.ref 0, .int y1, .int y2, .retAddr 0, .retAddr 0]) (st' := [.int y2]) (h' := mw φ1) rfl ?_
  refine qr_ge1 (tgt := 17) hC rfl (by decide) rfl (fun hc => ?_) (fun hc => ?_)
  · rw [if_pos hc] at hs
    refine qr_s hC (n := 2) (pc' := 19) (ls' := [.ref 0, .int y1, .int y2, .retAddr 0, .retAddr 0]) (st' := [.int 4, .int y1]) (h' := mw φ1) rfl ?_
    refine qr_ne2 (tgt := 29) hC rfl (by decide) rfl (fun hc => ?_) (fun hc => ?_)
    · rw [if_pos hc] at hs
      refine qr_s hC (n := 2) (pc' := 31) (ls' := [.ref 0, .int y1, .int y2, .retAddr 0, .retAddr 0]) (st' := [.int 1, .int y1]) (h' := mw φ1) rfl ?_
      refine qr_ne2 (tgt := 38) hC rfl (by decide) rfl (fun hc => ?_) (fun hc => ?_)
      · rw [if_pos hc] at hs
        refine qr_s hC (n := 1) (pc' := 40) (ls' := [.ref 0, .int y1, .int y2, .retAddr 0, .retAddr 0]) (st' := [.int 6]) (h' := mw φ1) rfl ?_
        exact mo_line_L40_n F (d + 1) (by omega) φ1 y1 y2 6 _ hs
      · rw [if_neg hc] at hs
        refine qr_s hC (n := 2) (pc' := 40) (ls' := [.ref 0, .int y1, .int y2, .retAddr 0, .retAddr 0]) (st' := [.int 5]) (h' := mw φ1) rfl ?_
        exact mo_line_L40_n F (d + 1) (by omega) φ1 y1 y2 5 _ hs
    · rw [if_neg hc] at hs
      refine qr_s hC (n := 2) (pc' := 25) (ls' := [.ref 0, .int y1, .int y2, .retAddr 0, .retAddr 0]) (st' := [.int 59, .ref 0]) (h' := mw φ1) rfl ?_
      obtain ⟨y3, φ2, hy, hs⟩ := qb2_s hs
      refine qr_c (j := 42) (as := [.ref 0, .int 59]) (rest := []) (v := some (.int y3)) (h1 := mw φ2) hC rfl rfl qC_42 rfl rfl (mo_takesSign_n F d φ1 59 _ (by omega) hy) ?_
      show qm_Rn (d + 1) 71 28 [.ref 0, .int y1, .int y2, .retAddr 0, .retAddr 0] [.int y3] (mw φ2) _
      obtain ⟨hz, hs⟩ := qg_s hs
      have hs := Option.some.inj hs
      subst hs
      exact qr_rz hC rfl hz
  · rw [if_neg hc] at hs
    refine qr_s hC (n := 1) (pc' := 16) (ls' := [.ref 0, .int y1, .int y2, .retAddr 0, .retAddr 0]) (st' := [.int 0]) (h' := mw φ1) rfl ?_
    have hs := Option.some.inj hs
    subst hs
    exact qr_r hC rfl rfl
/-- SketchFillerModel.begins()Z -/
def mo_begins (F : Nat) (φ : qm_F) : Option (Int32 × qm_F) :=
  qb2 (mo_takesOwn F φ 0) fun y1 φ1 =>
  if y1 = 0 then
    some (0, φ1)
  else
    qb2 (mo_takesNumber F φ1 1 16) fun y2 φ2 =>
    if ¬ y2 = 0 then
      qb1 (mo_tells F φ2 0 (φ2 0 11)) fun φ3 =>
      qb2 (mo_takesSign F φ3 59) fun y3 φ4 =>
      qg (qm_bz y3) (some (y3, φ4))
    else
      some (0, φ2)
set_option maxRecDepth 100000 in
theorem mo_begins_n (F d : Nat) (φ : qm_F) (r : (Int32 × qm_F)) (hd : 3 ≤ d) (hs : mo_begins F φ = some r) : qm_Rn d 72 0 [.ref 0] [] (mw φ) (some (.int r.1), mw r.2) := by
  obtain ⟨d, rfl⟩ : ∃ e, d = e + 1 := ⟨d - 1, by omega⟩
  have hC := qC_72
  unfold mo_begins at hs
  refine qr_s hC (n := 2) (pc' := 2) (ls' := [.ref 0]) (st' := [.int 0, .ref 0]) (h' := mw φ) rfl ?_
  obtain ⟨y1, φ1, hy, hs⟩ := qb2_s hs
  refine qr_c (j := 43) (as := [.ref 0, .int 0]) (rest := []) (v := some (.int y1)) (h1 := mw φ1) hC rfl rfl qC_43 rfl rfl (mo_takesOwn_n F d φ 0 _ (by omega) hy) ?_
  show qm_Rn (d + 1) 72 5 [.ref 0] [.int y1] (mw φ1) _
  refine qr_eq1 (tgt := 18) hC rfl (by decide) rfl (fun hc => ?_) (fun hc => ?_)
  · rw [if_pos hc] at hs
    refine qr_s hC (n := 1) (pc' := 19) (ls' := [.ref 0]) (st' := [.int 0]) (h' := mw φ1) rfl ?_
    have hs := Option.some.inj hs
    subst hs
    exact qr_r hC rfl rfl
  · rw [if_neg hc] at hs
    refine qr_s hC (n := 3) (pc' := 12) (ls' := [.ref 0]) (st' := [.int 16, .int 1, .ref 0]) (h' := mw φ1) rfl ?_
    obtain ⟨y2, φ2, hy, hs⟩ := qb2_s hs
    refine qr_c (j := 44) (as := [.ref 0, .int 1, .int 16]) (rest := []) (v := some (.int y2)) (h1 := mw φ2) hC rfl rfl qC_44 rfl rfl (mo_takesNumber_n F d φ1 1 16 _ (by omega) hy) ?_
    show qm_Rn (d + 1) 72 15 [.ref 0] [.int y2] (mw φ2) _
    refine qr_ne1 (tgt := 20) hC rfl (by decide) rfl (fun hc => ?_) (fun hc => ?_)
    · rw [if_pos hc] at hs
      refine qr_s hC (n := 4) (pc' := 26) (ls' := [.ref 0]) (st' := [.int (φ2 0 11), .int 0, .ref 0]) (h' := mw φ2) rfl ?_
      obtain ⟨φ3, hy, hs⟩ := qb1_s hs
      refine qr_c (j := 46) (as := [.ref 0, .int 0, .int (φ2 0 11)]) (rest := []) (v := none) (h1 := mw φ3) hC rfl rfl qC_46 rfl rfl (mo_tells_n F d φ2 0 (φ2 0 11) _ (by omega) hy) ?_
      show qm_Rn (d + 1) 72 29 [.ref 0] [] (mw φ3) _
      refine qr_s hC (n := 2) (pc' := 32) (ls' := [.ref 0]) (st' := [.int 59, .ref 0]) (h' := mw φ3) rfl ?_
      obtain ⟨y3, φ4, hy, hs⟩ := qb2_s hs
      refine qr_c (j := 42) (as := [.ref 0, .int 59]) (rest := []) (v := some (.int y3)) (h1 := mw φ4) hC rfl rfl qC_42 rfl rfl (mo_takesSign_n F d φ3 59 _ (by omega) hy) ?_
      show qm_Rn (d + 1) 72 35 [.ref 0] [.int y3] (mw φ4) _
      obtain ⟨hz, hs⟩ := qg_s hs
      have hs := Option.some.inj hs
      subst hs
      exact qr_rz hC rfl hz
    · rw [if_neg hc] at hs
      refine qr_s hC (n := 1) (pc' := 19) (ls' := [.ref 0]) (st' := [.int 0]) (h' := mw φ2) rfl ?_
      have hs := Option.some.inj hs
      subst hs
      exact qr_r hC rfl rfl
/-- SketchFillerModel.reads()Z -/
def mo_reads_L134 (F : Nat) (φ : qm_F) (s0 : Int32) : Option (Int32 × qm_F) :=
  qb2 (mo_must F φ s0 1) fun y1 φ1 =>
  if y1 = 0 then
    some (0, φ1)
  else
    some (1, φ1)
def mo_reads_L50 (F : Nat) : Nat → qm_F → Option (Int32 × qm_F)
  | 0, _ => none
  | n + 1, φ =>
    qb1 (mo_own F φ) fun y1 =>
    if y1 = 12 then
      qb1 (mo_steps F φ) fun φ1 =>
      qg (qm_in (φ1 0 13) 2) <|
      qb2 (mg_E F 80 2 (qm_u (qm_u φ1 0 28 0) 9 ((φ1 0 13).toNatClampNeg) (φ1 0 21)) 0 0) fun y2 φ2 =>
      if ¬ y2 = 0 then
        qg (qm_in (φ2 0 13) 2) <|
        qb2 (mo_takesSign F (qm_u φ2 10 ((φ2 0 13).toNatClampNeg) (φ2 0 21)) 59) fun y3 φ3 =>
        if y3 = 0 then
          some (0, φ3)
        else
          if ¬ (φ3 0 6) = 0 then
            mo_reads_L134 F φ3 0
          else
            mo_reads_L134 F φ3 1
      else
        some (0, φ2)
    else
      qb2 (mg_S F 40 1 φ 0 0) fun y4 φ4 =>
      if ¬ y4 = 0 then
        mo_reads_L50 F n φ4
      else
        some (0, φ4)
def mo_reads_L9 (F : Nat) : Nat → Nat → qm_F → Option (Int32 × qm_F)
  | 0, _, _ => none
  | n + 1, t, φ =>
    if t = 0 then
      qb1 (mo_own F φ) fun y1 =>
      if y1 = 1 then
        mo_reads_L9 F n 1 φ
      else
        qb1 (mo_own F φ) fun y2 =>
        if y2 = 2 then
          mo_reads_L9 F n 1 φ
        else
          qb1 (mo_own F φ) fun y3 =>
          if ¬ y3 = 4 then
            mo_reads_L50 F F (qm_u φ 0 31 (φ 0 4))
          else
            mo_reads_L9 F n 1 φ
    else
    qb2 (mo_line F φ) fun y1 φ1 =>
    if ¬ y1 = 0 then
      mo_reads_L9 F n 0 φ1
    else
      some (0, φ1)
def mo_reads (F : Nat) (φ : qm_F) : Option (Int32 × qm_F) :=
  qb2 (mo_begins F φ) fun y1 φ1 =>
  if ¬ y1 = 0 then
    mo_reads_L9 F F 0 φ1
  else
    some (0, φ1)
set_option maxRecDepth 100000 in
theorem mo_reads_L134_n (F d : Nat) (hd : 127 ≤ d) (φ : qm_F) (s0 : Int32) (r : (Int32 × qm_F)) (hs : mo_reads_L134 F φ s0 = some r) : qm_Rn d 73 134 [.retAddr 0] [.int s0, .ref 0] (mw φ) (some (.int r.1), mw r.2) := by
  obtain ⟨d, rfl⟩ : ∃ e, d = e + 1 := ⟨d - 1, by omega⟩
  have hC := qC_73
  unfold mo_reads_L134 at hs
  refine qr_s hC (n := 1) (pc' := 135) (ls' := [.retAddr 0]) (st' := [.int 1, .int s0, .ref 0]) (h' := mw φ) rfl ?_
  obtain ⟨y1, φ1, hy, hs⟩ := qb2_s hs
  refine qr_c (j := 37) (as := [.ref 0, .int s0, .int 1]) (rest := []) (v := some (.int y1)) (h1 := mw φ1) hC rfl rfl qC_37 rfl rfl (mo_must_n F d φ s0 1 _ (by omega) hy) ?_
  show qm_Rn (d + 1) 73 138 [.retAddr 0] [.int y1] (mw φ1) _
  refine qr_eq1 (tgt := 145) hC rfl (by decide) rfl (fun hc => ?_) (fun hc => ?_)
  · rw [if_pos hc] at hs
    refine qr_s hC (n := 1) (pc' := 146) (ls' := [.retAddr 0]) (st' := [.int 0]) (h' := mw φ1) rfl ?_
    have hs := Option.some.inj hs
    subst hs
    exact qr_r hC rfl rfl
  · rw [if_neg hc] at hs
    refine qr_s hC (n := 2) (pc' := 146) (ls' := [.retAddr 0]) (st' := [.int 1]) (h' := mw φ1) rfl ?_
    have hs := Option.some.inj hs
    subst hs
    exact qr_r hC rfl rfl
set_option maxRecDepth 100000 in
theorem mo_reads_L50_n (F d : Nat) (hd : 127 ≤ d) : ∀ (n : Nat) (φ : qm_F) (r : (Int32 × qm_F)), mo_reads_L50 F n φ = some r → qm_Rn d 73 50 [.ref 0] [] (mw φ) (some (.int r.1), mw r.2) := by
  obtain ⟨d, rfl⟩ : ∃ e, d = e + 1 := ⟨d - 1, by omega⟩
  have hC := qC_73
  intro n
  induction n with
  | zero => intro φ r hs; simp [mo_reads_L50] at hs
  | succ n ih =>
    intro φ r hs
    rw [mo_reads_L50] at hs
    refine qr_s hC (n := 1) (pc' := 51) (ls' := [.ref 0]) (st' := [.ref 0]) (h' := mw φ) rfl ?_
    obtain ⟨y1, hy, hs⟩ := qb1_s hs
    refine qr_c (j := 40) (as := [.ref 0]) (rest := []) (v := some (.int y1)) (h1 := mw φ) hC rfl rfl qC_40 rfl rfl (mo_own_n F d φ _ (by omega) hy) ?_
    show qm_Rn (d + 1) 73 54 [.ref 0] [.int y1] (mw φ) _
    refine qr_s hC (n := 1) (pc' := 56) (ls' := [.ref 0]) (st' := [.int 12, .int y1]) (h' := mw φ) rfl ?_
    refine qr_eq2 (tgt := 68) hC rfl (by decide) rfl (fun hc => ?_) (fun hc => ?_)
    · rw [if_pos hc] at hs
      refine qr_s hC (n := 1) (pc' := 69) (ls' := [.ref 0]) (st' := [.ref 0]) (h' := mw φ) rfl ?_
      obtain ⟨φ1, hy, hs⟩ := qb1_s hs
      refine qr_c (j := 36) (as := [.ref 0]) (rest := []) (v := none) (h1 := mw φ1) hC rfl rfl qC_36 rfl rfl (mo_steps_n F d φ _ (by omega) hy) ?_
      show qm_Rn (d + 1) 73 72 [.ref 0] [] (mw φ1) _
      refine qr_s hC (n := 9) (pc' := 89) (ls' := [.ref 0]) (st' := [.int (φ1 0 21), .int (φ1 0 13), .ref 9]) (h' := mw (qm_u φ1 0 28 0)) rfl ?_
      obtain ⟨hq, hs⟩ := qg_s hs
      refine qr_is (h' := mw (qm_u (qm_u φ1 0 28 0) 9 ((φ1 0 13).toNatClampNeg) (φ1 0 21))) hC rfl rfl hq rfl ?_
      refine qr_s hC (n := 1) (pc' := 91) (ls' := [.ref 0]) (st' := [.ref 0]) (h' := mw (qm_u (qm_u φ1 0 28 0) 9 ((φ1 0 13).toNatClampNeg) (φ1 0 21))) rfl ?_
      obtain ⟨y2, φ2, hy, hs⟩ := qb2_s hs
      refine qr_c (j := 54) (as := [.ref 0]) (rest := []) (v := some (.int y2)) (h1 := mw φ2) hC rfl rfl qC_54 rfl rfl (mg_E_n F 80 2 (qm_u (qm_u φ1 0 28 0) 9 ((φ1 0 13).toNatClampNeg) (φ1 0 21)) 0 0 _ d (by omega) hy) ?_
      show qm_Rn (d + 1) 73 94 [.ref 0] [.int y2] (mw φ2) _
      refine qr_ne1 (tgt := 99) hC rfl (by decide) rfl (fun hc => ?_) (fun hc => ?_)
      · rw [if_pos hc] at hs
        refine qr_s hC (n := 6) (pc' := 111) (ls' := [.ref 0]) (st' := [.int (φ2 0 21), .int (φ2 0 13), .ref 10]) (h' := mw φ2) rfl ?_
        obtain ⟨hq, hs⟩ := qg_s hs
        refine qr_is (h' := mw (qm_u φ2 10 ((φ2 0 13).toNatClampNeg) (φ2 0 21))) hC rfl rfl hq rfl ?_
        refine qr_s hC (n := 2) (pc' := 115) (ls' := [.ref 0]) (st' := [.int 59, .ref 0]) (h' := mw (qm_u φ2 10 ((φ2 0 13).toNatClampNeg) (φ2 0 21))) rfl ?_
        obtain ⟨y3, φ3, hy, hs⟩ := qb2_s hs
        refine qr_c (j := 42) (as := [.ref 0, .int 59]) (rest := []) (v := some (.int y3)) (h1 := mw φ3) hC rfl rfl qC_42 rfl rfl (mo_takesSign_n F d (qm_u φ2 10 ((φ2 0 13).toNatClampNeg) (φ2 0 21)) 59 _ (by omega) hy) ?_
        show qm_Rn (d + 1) 73 118 [.ref 0] [.int y3] (mw φ3) _
        refine qr_eq1 (tgt := 145) hC rfl (by decide) rfl (fun hc => ?_) (fun hc => ?_)
        · rw [if_pos hc] at hs
          refine qr_s hC (n := 1) (pc' := 146) (ls' := [.ref 0]) (st' := [.int 0]) (h' := mw φ3) rfl ?_
          have hs := Option.some.inj hs
          subst hs
          exact qr_r hC rfl rfl
        · rw [if_neg hc] at hs
          refine qr_s hC (n := 3) (pc' := 126) (ls' := [.ref 0]) (st' := [.int (φ3 0 6), .ref 0]) (h' := mw φ3) rfl ?_
          refine qr_ne1 (tgt := 133) hC rfl (by decide) rfl (fun hc => ?_) (fun hc => ?_)
          · rw [if_pos hc] at hs
            refine qr_s hC (n := 1) (pc' := 134) (ls' := [.ref 0]) (st' := [.int 0, .ref 0]) (h' := mw φ3) rfl ?_
            exact qr_w (a := [.retAddr 0]) ⟨Or.inl rfl, trivial⟩ (mo_reads_L134_n F (d + 1) (by omega) φ3 0 _ hs)
          · rw [if_neg hc] at hs
            refine qr_s hC (n := 2) (pc' := 134) (ls' := [.ref 0]) (st' := [.int 1, .ref 0]) (h' := mw φ3) rfl ?_
            exact qr_w (a := [.retAddr 0]) ⟨Or.inl rfl, trivial⟩ (mo_reads_L134_n F (d + 1) (by omega) φ3 1 _ hs)
      · rw [if_neg hc] at hs
        refine qr_s hC (n := 1) (pc' := 98) (ls' := [.ref 0]) (st' := [.int 0]) (h' := mw φ2) rfl ?_
        have hs := Option.some.inj hs
        subst hs
        exact qr_r hC rfl rfl
    · rw [if_neg hc] at hs
      refine qr_s hC (n := 1) (pc' := 60) (ls' := [.ref 0]) (st' := [.ref 0]) (h' := mw φ) rfl ?_
      obtain ⟨y4, φ4, hy, hs⟩ := qb2_s hs
      refine qr_c (j := 69) (as := [.ref 0]) (rest := []) (v := some (.int y4)) (h1 := mw φ4) hC rfl rfl qC_69 rfl rfl (mg_S_n F 40 1 φ 0 0 _ d (by omega) hy) ?_
      show qm_Rn (d + 1) 73 63 [.ref 0] [.int y4] (mw φ4) _
      refine qr_ne1 (tgt := 50) hC rfl (by decide) rfl (fun hc => ?_) (fun hc => ?_)
      · rw [if_pos hc] at hs
        exact ih φ4 _ hs
      · rw [if_neg hc] at hs
        refine qr_s hC (n := 1) (pc' := 67) (ls' := [.ref 0]) (st' := [.int 0]) (h' := mw φ4) rfl ?_
        have hs := Option.some.inj hs
        subst hs
        exact qr_r hC rfl rfl
set_option maxRecDepth 100000 in
theorem mo_reads_L9_n0 (F d : Nat) (hd : 127 ≤ d) : ∀ (n t : Nat) (φ : qm_F) (r : (Int32 × qm_F)), mo_reads_L9 F n t φ = some r → (t = 0 → qm_Rn d 73 9 [.ref 0] [] (mw φ) (some (.int r.1), mw r.2)) ∧ (t ≠ 0 → qm_Rn d 73 33 [.ref 0] [] (mw φ) (some (.int r.1), mw r.2)) := by
  obtain ⟨d, rfl⟩ : ∃ e, d = e + 1 := ⟨d - 1, by omega⟩
  have hC := qC_73
  intro n
  induction n with
  | zero => intro t φ r hs; simp [mo_reads_L9] at hs
  | succ n ihh =>
    intro t φ r hs
    rw [mo_reads_L9] at hs
    have ih0 : ∀ (φ : qm_F) (r : (Int32 × qm_F)), mo_reads_L9 F n 0 φ = some r → _ := fun φ r q => (ihh 0 φ r q).1 rfl
    have ih1 : ∀ (φ : qm_F) (r : (Int32 × qm_F)), mo_reads_L9 F n 1 φ = some r → _ := fun φ r q => (ihh 1 φ r q).2 (by decide)
    refine ⟨fun ht => ?_, fun ht => ?_⟩
    · subst ht
      rw [if_pos rfl] at hs
      refine qr_s hC (n := 1) (pc' := 10) (ls' := [.ref 0]) (st' := [.ref 0]) (h' := mw φ) rfl ?_
      obtain ⟨y1, hy, hs⟩ := qb1_s hs
      refine qr_c (j := 40) (as := [.ref 0]) (rest := []) (v := some (.int y1)) (h1 := mw φ) hC rfl rfl qC_40 rfl rfl (mo_own_n F d φ _ (by omega) hy) ?_
      show qm_Rn (d + 1) 73 13 [.ref 0] [.int y1] (mw φ) _
      refine qr_s hC (n := 1) (pc' := 14) (ls' := [.ref 0]) (st' := [.int 1, .int y1]) (h' := mw φ) rfl ?_
      refine qr_eq2 (tgt := 33) hC rfl (by decide) rfl (fun hc => ?_) (fun hc => ?_)
      · rw [if_pos hc] at hs
        exact (ih1 φ _ hs)
      · rw [if_neg hc] at hs
        refine qr_s hC (n := 1) (pc' := 18) (ls' := [.ref 0]) (st' := [.ref 0]) (h' := mw φ) rfl ?_
        obtain ⟨y2, hy, hs⟩ := qb1_s hs
        refine qr_c (j := 40) (as := [.ref 0]) (rest := []) (v := some (.int y2)) (h1 := mw φ) hC rfl rfl qC_40 rfl rfl (mo_own_n F d φ _ (by omega) hy) ?_
        show qm_Rn (d + 1) 73 21 [.ref 0] [.int y2] (mw φ) _
        refine qr_s hC (n := 1) (pc' := 22) (ls' := [.ref 0]) (st' := [.int 2, .int y2]) (h' := mw φ) rfl ?_
        refine qr_eq2 (tgt := 33) hC rfl (by decide) rfl (fun hc => ?_) (fun hc => ?_)
        · rw [if_pos hc] at hs
          exact (ih1 φ _ hs)
        · rw [if_neg hc] at hs
          refine qr_s hC (n := 1) (pc' := 26) (ls' := [.ref 0]) (st' := [.ref 0]) (h' := mw φ) rfl ?_
          obtain ⟨y3, hy, hs⟩ := qb1_s hs
          refine qr_c (j := 40) (as := [.ref 0]) (rest := []) (v := some (.int y3)) (h1 := mw φ) hC rfl rfl qC_40 rfl rfl (mo_own_n F d φ _ (by omega) hy) ?_
          show qm_Rn (d + 1) 73 29 [.ref 0] [.int y3] (mw φ) _
          refine qr_s hC (n := 1) (pc' := 30) (ls' := [.ref 0]) (st' := [.int 4, .int y3]) (h' := mw φ) rfl ?_
          refine qr_ne2 (tgt := 42) hC rfl (by decide) rfl (fun hc => ?_) (fun hc => ?_)
          · rw [if_pos hc] at hs
            refine qr_s hC (n := 4) (pc' := 50) (ls' := [.ref 0]) (st' := []) (h' := mw (qm_u φ 0 31 (φ 0 4))) rfl ?_
            exact mo_reads_L50_n F (d + 1) (by omega) F (qm_u φ 0 31 (φ 0 4)) _ hs
          · rw [if_neg hc] at hs
            exact (ih1 φ _ hs)
    · have ht0 := ht
      rw [if_neg ht0] at hs
      refine qr_s hC (n := 1) (pc' := 34) (ls' := [.ref 0]) (st' := [.ref 0]) (h' := mw φ) rfl ?_
      obtain ⟨y1, φ1, hy, hs⟩ := qb2_s hs
      refine qr_c (j := 71) (as := [.ref 0]) (rest := []) (v := some (.int y1)) (h1 := mw φ1) hC rfl rfl qC_71 rfl rfl (mo_line_n F d φ _ (by omega) hy) ?_
      show qm_Rn (d + 1) 73 37 [.ref 0] [.int y1] (mw φ1) _
      refine qr_ne1 (tgt := 9) hC rfl (by decide) rfl (fun hc => ?_) (fun hc => ?_)
      · rw [if_pos hc] at hs
        exact (ih0 φ1 _ hs)
      · rw [if_neg hc] at hs
        refine qr_s hC (n := 1) (pc' := 41) (ls' := [.ref 0]) (st' := [.int 0]) (h' := mw φ1) rfl ?_
        have hs := Option.some.inj hs
        subst hs
        exact qr_r hC rfl rfl
theorem mo_reads_L9_n_t0 (F d : Nat) (hd : 127 ≤ d) (n : Nat) (φ : qm_F) (r : (Int32 × qm_F)) (hs : mo_reads_L9 F n 0 φ = some r) : qm_Rn d 73 9 [.ref 0] [] (mw φ) (some (.int r.1), mw r.2) := (mo_reads_L9_n0 F d hd n 0 φ r hs).1 rfl
theorem mo_reads_L9_n_t1 (F d : Nat) (hd : 127 ≤ d) (n : Nat) (φ : qm_F) (r : (Int32 × qm_F)) (hs : mo_reads_L9 F n 1 φ = some r) : qm_Rn d 73 33 [.ref 0] [] (mw φ) (some (.int r.1), mw r.2) := (mo_reads_L9_n0 F d hd n 1 φ r hs).2 (by decide)
set_option maxRecDepth 100000 in
theorem mo_reads_n (F d : Nat) (φ : qm_F) (r : (Int32 × qm_F)) (hd : 127 ≤ d) (hs : mo_reads F φ = some r) : qm_Rn d 73 0 [.ref 0] [] (mw φ) (some (.int r.1), mw r.2) := by
  obtain ⟨d, rfl⟩ : ∃ e, d = e + 1 := ⟨d - 1, by omega⟩
  have hC := qC_73
  unfold mo_reads at hs
  refine qr_s hC (n := 1) (pc' := 1) (ls' := [.ref 0]) (st' := [.ref 0]) (h' := mw φ) rfl ?_
  obtain ⟨y1, φ1, hy, hs⟩ := qb2_s hs
  refine qr_c (j := 72) (as := [.ref 0]) (rest := []) (v := some (.int y1)) (h1 := mw φ1) hC rfl rfl qC_72 rfl rfl (mo_begins_n F d φ _ (by omega) hy) ?_
  show qm_Rn (d + 1) 73 4 [.ref 0] [.int y1] (mw φ1) _
  refine qr_ne1 (tgt := 9) hC rfl (by decide) rfl (fun hc => ?_) (fun hc => ?_)
  · rw [if_pos hc] at hs
    exact (mo_reads_L9_n_t0 F (d + 1) (by omega) F φ1 _ hs)
  · rw [if_neg hc] at hs
    refine qr_s hC (n := 1) (pc' := 8) (ls' := [.ref 0]) (st' := [.int 0]) (h' := mw φ1) rfl ?_
    have hs := Option.some.inj hs
    subst hs
    exact qr_r hC rfl rfl
/-- SketchFillerModel.laysShown()V -/
def mo_laysShown_L59 (F : Nat) : Nat → qm_F → Option qm_F
  | 0, _ => none
  | n + 1, φ =>
    if (φ 0 6) = 0 then
      some φ
    else
      qb1 (mo_shows F φ) fun φ1 =>
      qb1 (mo_steps F φ1) fun φ2 =>
      mo_laysShown_L59 F n φ2
def mo_laysShown_L20 (F : Nat) : Nat → qm_F → Int32 → Option qm_F
  | 0, _, _ => none
  | n + 1, φ, x1 =>
    if (φ 0 3) ≤ x1 then
      qb1 (mo_steps F φ) fun φ1 =>
      mo_laysShown_L59 F F φ1
    else
      qg (qm_in x1 800) <|
      qg (qm_in ((800 * (φ 0 13)) + x1) 1600) <|
      mo_laysShown_L20 F n (qm_u φ 11 (((800 * (φ 0 13)) + x1).toNatClampNeg) (qm_by (φ 1 x1.toNatClampNeg))) (x1 + 1)
def mo_laysShown (F : Nat) (φ : qm_F) : Option qm_F :=
  qg (qm_in (φ 0 13) 2) <|
  mo_laysShown_L20 F F (qm_u (qm_u φ 0 5 (φ 0 31)) 14 ((φ 0 13).toNatClampNeg) 0) 0
set_option maxRecDepth 100000 in
theorem mo_laysShown_L59_n (F d : Nat) (hd : 2 ≤ d) : ∀ (n : Nat) (φ : qm_F) (r : qm_F), mo_laysShown_L59 F n φ = some r → qm_Rn d 74 59 [.ref 0, .retAddr 0] [] (mw φ) (none, mw r) := by
  obtain ⟨d, rfl⟩ : ∃ e, d = e + 1 := ⟨d - 1, by omega⟩
  have hC := qC_74
  intro n
  induction n with
  | zero => intro φ r hs; simp [mo_laysShown_L59] at hs
  | succ n ih =>
    intro φ r hs
    rw [mo_laysShown_L59] at hs
    refine qr_s hC (n := 2) (pc' := 63) (ls' := [.ref 0, .retAddr 0]) (st' := [.int (φ 0 6)]) (h' := mw φ) rfl ?_
    refine qr_eq1 (tgt := 77) hC rfl (by decide) rfl (fun hc => ?_) (fun hc => ?_)
    · rw [if_pos hc] at hs
      have hs := Option.some.inj hs
      subst hs
      exact qr_r hC rfl rfl
    · rw [if_neg hc] at hs
      refine qr_s hC (n := 1) (pc' := 67) (ls' := [.ref 0, .retAddr 0]) (st' := [.ref 0]) (h' := mw φ) rfl ?_
      obtain ⟨φ1, hy, hs⟩ := qb1_s hs
      refine qr_c (j := 48) (as := [.ref 0]) (rest := []) (v := none) (h1 := mw φ1) hC rfl rfl qC_48 rfl rfl (mo_shows_n F d φ _ (by omega) hy) ?_
      show qm_Rn (d + 1) 74 70 [.ref 0, .retAddr 0] [] (mw φ1) _
      refine qr_s hC (n := 1) (pc' := 71) (ls' := [.ref 0, .retAddr 0]) (st' := [.ref 0]) (h' := mw φ1) rfl ?_
      obtain ⟨φ2, hy, hs⟩ := qb1_s hs
      refine qr_c (j := 36) (as := [.ref 0]) (rest := []) (v := none) (h1 := mw φ2) hC rfl rfl qC_36 rfl rfl (mo_steps_n F d φ1 _ (by omega) hy) ?_
      show qm_Rn (d + 1) 74 74 [.ref 0, .retAddr 0] [] (mw φ2) _
      refine qr_s hC (n := 1) (pc' := 59) (ls' := [.ref 0, .retAddr 0]) (st' := []) (h' := mw φ2) rfl ?_
      exact ih φ2 _ hs
set_option maxRecDepth 100000 in
theorem mo_laysShown_L20_n (F d : Nat) (hd : 2 ≤ d) : ∀ (n : Nat) (φ : qm_F) (x1 : Int32) (r : qm_F), mo_laysShown_L20 F n φ x1 = some r → qm_Rn d 74 20 [.ref 0, .int x1] [] (mw φ) (none, mw r) := by
  obtain ⟨d, rfl⟩ : ∃ e, d = e + 1 := ⟨d - 1, by omega⟩
  have hC := qC_74
  intro n
  induction n with
  | zero => intro φ x1 r hs; simp [mo_laysShown_L20] at hs
  | succ n ih =>
    intro φ x1 r hs
    rw [mo_laysShown_L20] at hs
    refine qr_s hC (n := 3) (pc' := 25) (ls' := [.ref 0, .int x1]) (st' := [.int (φ 0 3), .int x1]) (h' := mw φ) rfl ?_
    refine qr_ge2 (tgt := 55) hC rfl (by decide) rfl (fun hc => ?_) (fun hc => ?_)
    · rw [if_pos hc] at hs
      refine qr_s hC (n := 1) (pc' := 56) (ls' := [.ref 0, .int x1]) (st' := [.ref 0]) (h' := mw φ) rfl ?_
      obtain ⟨φ1, hy, hs⟩ := qb1_s hs
      refine qr_c (j := 36) (as := [.ref 0]) (rest := []) (v := none) (h1 := mw φ1) hC rfl rfl qC_36 rfl rfl (mo_steps_n F d φ _ (by omega) hy) ?_
      show qm_Rn (d + 1) 74 59 [.ref 0, .int x1] [] (mw φ1) _
      exact qr_w (a := [.ref 0, .retAddr 0]) ⟨Or.inr rfl, Or.inl rfl, trivial⟩ (mo_laysShown_L59_n F (d + 1) (by omega) F φ1 _ hs)
    · rw [if_neg hc] at hs
      refine qr_s hC (n := 11) (pc' := 47) (ls' := [.ref 0, .int x1]) (st' := [.int x1, .ref 1, .int ((800 * (φ 0 13)) + x1), .ref 11]) (h' := mw φ) rfl ?_
      obtain ⟨hq, hs⟩ := qg_s hs
      refine qr_ba (v := φ 1 x1.toNatClampNeg) hC rfl rfl hq rfl ?_
      obtain ⟨hq, hs⟩ := qg_s hs
      refine qr_bs (h' := mw (qm_u φ 11 (((800 * (φ 0 13)) + x1).toNatClampNeg) (qm_by (φ 1 x1.toNatClampNeg)))) hC rfl rfl hq rfl ?_
      refine qr_s hC (n := 2) (pc' := 20) (ls' := [.ref 0, .int (x1 + 1)]) (st' := []) (h' := mw (qm_u φ 11 (((800 * (φ 0 13)) + x1).toNatClampNeg) (qm_by (φ 1 x1.toNatClampNeg)))) rfl ?_
      exact ih (qm_u φ 11 (((800 * (φ 0 13)) + x1).toNatClampNeg) (qm_by (φ 1 x1.toNatClampNeg))) (x1 + 1) _ hs
set_option maxRecDepth 100000 in
theorem mo_laysShown_n (F d : Nat) (φ : qm_F) (r : qm_F) (hd : 2 ≤ d) (hs : mo_laysShown F φ = some r) : qm_Rn d 74 0 [.ref 0, .retAddr 0] [] (mw φ) (none, mw r) := by
  obtain ⟨d, rfl⟩ : ∃ e, d = e + 1 := ⟨d - 1, by omega⟩
  have hC := qC_74
  unfold mo_laysShown at hs
  refine qr_s hC (n := 9) (pc' := 17) (ls' := [.ref 0, .retAddr 0]) (st' := [.int 0, .int (φ 0 13), .ref 14]) (h' := mw (qm_u φ 0 5 (φ 0 31))) rfl ?_
  obtain ⟨hq, hs⟩ := qg_s hs
  refine qr_is (h' := mw (qm_u (qm_u φ 0 5 (φ 0 31)) 14 ((φ 0 13).toNatClampNeg) 0)) hC rfl rfl hq rfl ?_
  refine qr_s hC (n := 2) (pc' := 20) (ls' := [.ref 0, .int 0]) (st' := []) (h' := mw (qm_u (qm_u φ 0 5 (φ 0 31)) 14 ((φ 0 13).toNatClampNeg) 0)) rfl ?_
  exact mo_laysShown_L20_n F (d + 1) (by omega) F (qm_u (qm_u φ 0 5 (φ 0 31)) 14 ((φ 0 13).toNatClampNeg) 0) 0 _ hs
/-- SketchFillerModel.copies()V -/
def mo_copies_L121 (F : Nat) : Nat → qm_F → Int32 → Option qm_F
  | 0, _, _ => none
  | n + 1, φ, x1 =>
    if 800 ≤ x1 then
      some (qm_u (qm_u (qm_u φ 9 0 (φ 9 1)) 10 0 (φ 10 1)) 14 0 (φ 14 1))
    else
      qg (qm_in (800 + x1) 1600) <|
      qg (qm_in x1 1600) <|
      qg (qm_in (800 + x1) 1600) <|
      qg (qm_in x1 1600) <|
      qg (qm_in (800 + x1) 1600) <|
      qg (qm_in x1 1600) <|
      qg (qm_in (800 + x1) 1600) <|
      qg (qm_in x1 1600) <|
      qg (qm_in (800 + x1) 1600) <|
      qg (qm_in x1 1600) <|
      mo_copies_L121 F n (qm_u (qm_u (qm_u (qm_u (qm_u φ 7 x1.toNatClampNeg (φ 7 ((800 + x1).toNatClampNeg))) 8 x1.toNatClampNeg (φ 8 ((800 + x1).toNatClampNeg))) 11 x1.toNatClampNeg (qm_by (φ 11 ((800 + x1).toNatClampNeg)))) 12 x1.toNatClampNeg (φ 12 ((800 + x1).toNatClampNeg))) 13 x1.toNatClampNeg (φ 13 ((800 + x1).toNatClampNeg))) (x1 + 1)
def mo_copies_L90 (F : Nat) : Nat → qm_F → Int32 → Option qm_F
  | 0, _, _ => none
  | n + 1, φ, x1 =>
    if 144 ≤ x1 then
      mo_copies_L121 F F φ 0
    else
      qg (qm_in (144 + x1) 288) <|
      qg (qm_in x1 288) <|
      mo_copies_L90 F n (qm_u φ 6 x1.toNatClampNeg (φ 6 ((144 + x1).toNatClampNeg))) (x1 + 1)
def mo_copies_L31 (F : Nat) : Nat → qm_F → Int32 → Option qm_F
  | 0, _, _ => none
  | n + 1, φ, x1 =>
    if 15 ≤ x1 then
      mo_copies_L90 F F φ 0
    else
      qg (qm_in (15 + x1) 30) <|
      qg (qm_in x1 30) <|
      qg (qm_in (15 + x1) 30) <|
      qg (qm_in x1 30) <|
      qg (qm_in (15 + x1) 30) <|
      qg (qm_in x1 30) <|
      mo_copies_L31 F n (qm_u (qm_u (qm_u φ 3 x1.toNatClampNeg (φ 3 ((15 + x1).toNatClampNeg))) 4 x1.toNatClampNeg (φ 4 ((15 + x1).toNatClampNeg))) 5 x1.toNatClampNeg (φ 5 ((15 + x1).toNatClampNeg))) (x1 + 1)
def mo_copies_L2 (F : Nat) : Nat → qm_F → Int32 → Option qm_F
  | 0, _, _ => none
  | n + 1, φ, x1 =>
    if 7 ≤ x1 then
      mo_copies_L31 F F φ 0
    else
      qg (qm_in (7 + x1) 14) <|
      qg (qm_in x1 14) <|
      mo_copies_L2 F n (qm_u φ 2 x1.toNatClampNeg (φ 2 ((7 + x1).toNatClampNeg))) (x1 + 1)
def mo_copies (F : Nat) (φ : qm_F) : Option qm_F :=
  mo_copies_L2 F F φ 0
set_option maxRecDepth 100000 in
theorem mo_copies_L121_n (F d : Nat) (hd : 0 ≤ d) : ∀ (n : Nat) (φ : qm_F) (x1 : Int32) (r : qm_F), mo_copies_L121 F n φ x1 = some r → qm_Rn d 75 121 [.ref 0, .int x1] [] (mw φ) (none, mw r) := by
  have hC := qC_75
  intro n
  induction n with
  | zero => intro φ x1 r hs; simp [mo_copies_L121] at hs
  | succ n ih =>
    intro φ x1 r hs
    rw [mo_copies_L121] at hs
    refine qr_s hC (n := 2) (pc' := 125) (ls' := [.ref 0, .int x1]) (st' := [.int 800, .int x1]) (h' := mw φ) rfl ?_
    refine qr_ge2 (tgt := 214) hC rfl (by decide) rfl (fun hc => ?_) (fun hc => ?_)
    · rw [if_pos hc] at hs
      refine qr_s hC (n := 6) (pc' := 224) (ls' := [.ref 0, .int x1]) (st' := [.int 1, .ref 9, .int 0, .ref 9]) (h' := mw φ) rfl ?_
      refine qr_ia (v := φ 9 1) hC rfl rfl (by decide) rfl ?_
      refine qr_is (h' := mw (qm_u φ 9 0 (φ 9 1))) hC rfl rfl (by decide) rfl ?_
      refine qr_s hC (n := 6) (pc' := 236) (ls' := [.ref 0, .int x1]) (st' := [.int 1, .ref 10, .int 0, .ref 10]) (h' := mw (qm_u φ 9 0 (φ 9 1))) rfl ?_
      refine qr_ia (v := φ 10 1) hC rfl rfl (by decide) rfl ?_
      refine qr_is (h' := mw (qm_u (qm_u φ 9 0 (φ 9 1)) 10 0 (φ 10 1))) hC rfl rfl (by decide) rfl ?_
      refine qr_s hC (n := 6) (pc' := 248) (ls' := [.ref 0, .int x1]) (st' := [.int 1, .ref 14, .int 0, .ref 14]) (h' := mw (qm_u (qm_u φ 9 0 (φ 9 1)) 10 0 (φ 10 1))) rfl ?_
      refine qr_ia (v := φ 14 1) hC rfl rfl (by decide) rfl ?_
      refine qr_is (h' := mw (qm_u (qm_u (qm_u φ 9 0 (φ 9 1)) 10 0 (φ 10 1)) 14 0 (φ 14 1))) hC rfl rfl (by decide) rfl ?_
      have hs := Option.some.inj hs
      subst hs
      exact qr_r hC rfl rfl
    · rw [if_neg hc] at hs
      refine qr_s hC (n := 8) (pc' := 142) (ls' := [.ref 0, .int x1]) (st' := [.int (800 + x1), .ref 7, .int x1, .ref 7]) (h' := mw φ) rfl ?_
      obtain ⟨hq, hs⟩ := qg_s hs
      refine qr_ia (v := φ 7 ((800 + x1).toNatClampNeg)) hC rfl rfl hq rfl ?_
      obtain ⟨hq, hs⟩ := qg_s hs
      refine qr_is (h' := mw (qm_u φ 7 x1.toNatClampNeg (φ 7 ((800 + x1).toNatClampNeg)))) hC rfl rfl hq rfl ?_
      refine qr_s hC (n := 8) (pc' := 158) (ls' := [.ref 0, .int x1]) (st' := [.int (800 + x1), .ref 8, .int x1, .ref 8]) (h' := mw (qm_u φ 7 x1.toNatClampNeg (φ 7 ((800 + x1).toNatClampNeg)))) rfl ?_
      obtain ⟨hq, hs⟩ := qg_s hs
      refine qr_ia (v := φ 8 ((800 + x1).toNatClampNeg)) hC rfl rfl hq rfl ?_
      obtain ⟨hq, hs⟩ := qg_s hs
      refine qr_is (h' := mw (qm_u (qm_u φ 7 x1.toNatClampNeg (φ 7 ((800 + x1).toNatClampNeg))) 8 x1.toNatClampNeg (φ 8 ((800 + x1).toNatClampNeg)))) hC rfl rfl hq rfl ?_
      refine qr_s hC (n := 8) (pc' := 174) (ls' := [.ref 0, .int x1]) (st' := [.int (800 + x1), .ref 11, .int x1, .ref 11]) (h' := mw (qm_u (qm_u φ 7 x1.toNatClampNeg (φ 7 ((800 + x1).toNatClampNeg))) 8 x1.toNatClampNeg (φ 8 ((800 + x1).toNatClampNeg)))) rfl ?_
      obtain ⟨hq, hs⟩ := qg_s hs
      refine qr_ba (v := φ 11 ((800 + x1).toNatClampNeg)) hC rfl rfl hq rfl ?_
      obtain ⟨hq, hs⟩ := qg_s hs
      refine qr_bs (h' := mw (qm_u (qm_u (qm_u φ 7 x1.toNatClampNeg (φ 7 ((800 + x1).toNatClampNeg))) 8 x1.toNatClampNeg (φ 8 ((800 + x1).toNatClampNeg))) 11 x1.toNatClampNeg (qm_by (φ 11 ((800 + x1).toNatClampNeg))))) hC rfl rfl hq rfl ?_
      refine qr_s hC (n := 8) (pc' := 190) (ls' := [.ref 0, .int x1]) (st' := [.int (800 + x1), .ref 12, .int x1, .ref 12]) (h' := mw (qm_u (qm_u (qm_u φ 7 x1.toNatClampNeg (φ 7 ((800 + x1).toNatClampNeg))) 8 x1.toNatClampNeg (φ 8 ((800 + x1).toNatClampNeg))) 11 x1.toNatClampNeg (qm_by (φ 11 ((800 + x1).toNatClampNeg))))) rfl ?_
      obtain ⟨hq, hs⟩ := qg_s hs
      refine qr_ia (v := φ 12 ((800 + x1).toNatClampNeg)) hC rfl rfl hq rfl ?_
      obtain ⟨hq, hs⟩ := qg_s hs
      refine qr_is (h' := mw (qm_u (qm_u (qm_u (qm_u φ 7 x1.toNatClampNeg (φ 7 ((800 + x1).toNatClampNeg))) 8 x1.toNatClampNeg (φ 8 ((800 + x1).toNatClampNeg))) 11 x1.toNatClampNeg (qm_by (φ 11 ((800 + x1).toNatClampNeg)))) 12 x1.toNatClampNeg (φ 12 ((800 + x1).toNatClampNeg)))) hC rfl rfl hq rfl ?_
      refine qr_s hC (n := 8) (pc' := 206) (ls' := [.ref 0, .int x1]) (st' := [.int (800 + x1), .ref 13, .int x1, .ref 13]) (h' := mw (qm_u (qm_u (qm_u (qm_u φ 7 x1.toNatClampNeg (φ 7 ((800 + x1).toNatClampNeg))) 8 x1.toNatClampNeg (φ 8 ((800 + x1).toNatClampNeg))) 11 x1.toNatClampNeg (qm_by (φ 11 ((800 + x1).toNatClampNeg)))) 12 x1.toNatClampNeg (φ 12 ((800 + x1).toNatClampNeg)))) rfl ?_
      obtain ⟨hq, hs⟩ := qg_s hs
      refine qr_ia (v := φ 13 ((800 + x1).toNatClampNeg)) hC rfl rfl hq rfl ?_
      obtain ⟨hq, hs⟩ := qg_s hs
      refine qr_is (h' := mw (qm_u (qm_u (qm_u (qm_u (qm_u φ 7 x1.toNatClampNeg (φ 7 ((800 + x1).toNatClampNeg))) 8 x1.toNatClampNeg (φ 8 ((800 + x1).toNatClampNeg))) 11 x1.toNatClampNeg (qm_by (φ 11 ((800 + x1).toNatClampNeg)))) 12 x1.toNatClampNeg (φ 12 ((800 + x1).toNatClampNeg))) 13 x1.toNatClampNeg (φ 13 ((800 + x1).toNatClampNeg)))) hC rfl rfl hq rfl ?_
      refine qr_s hC (n := 2) (pc' := 121) (ls' := [.ref 0, .int (x1 + 1)]) (st' := []) (h' := mw (qm_u (qm_u (qm_u (qm_u (qm_u φ 7 x1.toNatClampNeg (φ 7 ((800 + x1).toNatClampNeg))) 8 x1.toNatClampNeg (φ 8 ((800 + x1).toNatClampNeg))) 11 x1.toNatClampNeg (qm_by (φ 11 ((800 + x1).toNatClampNeg)))) 12 x1.toNatClampNeg (φ 12 ((800 + x1).toNatClampNeg))) 13 x1.toNatClampNeg (φ 13 ((800 + x1).toNatClampNeg)))) rfl ?_
      exact ih (qm_u (qm_u (qm_u (qm_u (qm_u φ 7 x1.toNatClampNeg (φ 7 ((800 + x1).toNatClampNeg))) 8 x1.toNatClampNeg (φ 8 ((800 + x1).toNatClampNeg))) 11 x1.toNatClampNeg (qm_by (φ 11 ((800 + x1).toNatClampNeg)))) 12 x1.toNatClampNeg (φ 12 ((800 + x1).toNatClampNeg))) 13 x1.toNatClampNeg (φ 13 ((800 + x1).toNatClampNeg))) (x1 + 1) _ hs
set_option maxRecDepth 100000 in
theorem mo_copies_L90_n (F d : Nat) (hd : 0 ≤ d) : ∀ (n : Nat) (φ : qm_F) (x1 : Int32) (r : qm_F), mo_copies_L90 F n φ x1 = some r → qm_Rn d 75 90 [.ref 0, .int x1] [] (mw φ) (none, mw r) := by
  have hC := qC_75
  intro n
  induction n with
  | zero => intro φ x1 r hs; simp [mo_copies_L90] at hs
  | succ n ih =>
    intro φ x1 r hs
    rw [mo_copies_L90] at hs
    refine qr_s hC (n := 2) (pc' := 94) (ls' := [.ref 0, .int x1]) (st' := [.int 144, .int x1]) (h' := mw φ) rfl ?_
    refine qr_ge2 (tgt := 119) hC rfl (by decide) rfl (fun hc => ?_) (fun hc => ?_)
    · rw [if_pos hc] at hs
      refine qr_s hC (n := 2) (pc' := 121) (ls' := [.ref 0, .int 0]) (st' := []) (h' := mw φ) rfl ?_
      exact mo_copies_L121_n F d (by omega) F φ 0 _ hs
    · rw [if_neg hc] at hs
      refine qr_s hC (n := 8) (pc' := 111) (ls' := [.ref 0, .int x1]) (st' := [.int (144 + x1), .ref 6, .int x1, .ref 6]) (h' := mw φ) rfl ?_
      obtain ⟨hq, hs⟩ := qg_s hs
      refine qr_ia (v := φ 6 ((144 + x1).toNatClampNeg)) hC rfl rfl hq rfl ?_
      obtain ⟨hq, hs⟩ := qg_s hs
      refine qr_is (h' := mw (qm_u φ 6 x1.toNatClampNeg (φ 6 ((144 + x1).toNatClampNeg)))) hC rfl rfl hq rfl ?_
      refine qr_s hC (n := 2) (pc' := 90) (ls' := [.ref 0, .int (x1 + 1)]) (st' := []) (h' := mw (qm_u φ 6 x1.toNatClampNeg (φ 6 ((144 + x1).toNatClampNeg)))) rfl ?_
      exact ih (qm_u φ 6 x1.toNatClampNeg (φ 6 ((144 + x1).toNatClampNeg))) (x1 + 1) _ hs
set_option maxRecDepth 100000 in
theorem mo_copies_L31_n (F d : Nat) (hd : 0 ≤ d) : ∀ (n : Nat) (φ : qm_F) (x1 : Int32) (r : qm_F), mo_copies_L31 F n φ x1 = some r → qm_Rn d 75 31 [.ref 0, .int x1] [] (mw φ) (none, mw r) := by
  have hC := qC_75
  intro n
  induction n with
  | zero => intro φ x1 r hs; simp [mo_copies_L31] at hs
  | succ n ih =>
    intro φ x1 r hs
    rw [mo_copies_L31] at hs
    refine qr_s hC (n := 2) (pc' := 34) (ls' := [.ref 0, .int x1]) (st' := [.int 15, .int x1]) (h' := mw φ) rfl ?_
    refine qr_ge2 (tgt := 88) hC rfl (by decide) rfl (fun hc => ?_) (fun hc => ?_)
    · rw [if_pos hc] at hs
      refine qr_s hC (n := 2) (pc' := 90) (ls' := [.ref 0, .int 0]) (st' := []) (h' := mw φ) rfl ?_
      exact mo_copies_L90_n F d (by omega) F φ 0 _ hs
    · rw [if_neg hc] at hs
      refine qr_s hC (n := 8) (pc' := 50) (ls' := [.ref 0, .int x1]) (st' := [.int (15 + x1), .ref 3, .int x1, .ref 3]) (h' := mw φ) rfl ?_
      obtain ⟨hq, hs⟩ := qg_s hs
      refine qr_ia (v := φ 3 ((15 + x1).toNatClampNeg)) hC rfl rfl hq rfl ?_
      obtain ⟨hq, hs⟩ := qg_s hs
      refine qr_is (h' := mw (qm_u φ 3 x1.toNatClampNeg (φ 3 ((15 + x1).toNatClampNeg)))) hC rfl rfl hq rfl ?_
      refine qr_s hC (n := 8) (pc' := 65) (ls' := [.ref 0, .int x1]) (st' := [.int (15 + x1), .ref 4, .int x1, .ref 4]) (h' := mw (qm_u φ 3 x1.toNatClampNeg (φ 3 ((15 + x1).toNatClampNeg)))) rfl ?_
      obtain ⟨hq, hs⟩ := qg_s hs
      refine qr_ia (v := φ 4 ((15 + x1).toNatClampNeg)) hC rfl rfl hq rfl ?_
      obtain ⟨hq, hs⟩ := qg_s hs
      refine qr_is (h' := mw (qm_u (qm_u φ 3 x1.toNatClampNeg (φ 3 ((15 + x1).toNatClampNeg))) 4 x1.toNatClampNeg (φ 4 ((15 + x1).toNatClampNeg)))) hC rfl rfl hq rfl ?_
      refine qr_s hC (n := 8) (pc' := 80) (ls' := [.ref 0, .int x1]) (st' := [.int (15 + x1), .ref 5, .int x1, .ref 5]) (h' := mw (qm_u (qm_u φ 3 x1.toNatClampNeg (φ 3 ((15 + x1).toNatClampNeg))) 4 x1.toNatClampNeg (φ 4 ((15 + x1).toNatClampNeg)))) rfl ?_
      obtain ⟨hq, hs⟩ := qg_s hs
      refine qr_ia (v := φ 5 ((15 + x1).toNatClampNeg)) hC rfl rfl hq rfl ?_
      obtain ⟨hq, hs⟩ := qg_s hs
      refine qr_is (h' := mw (qm_u (qm_u (qm_u φ 3 x1.toNatClampNeg (φ 3 ((15 + x1).toNatClampNeg))) 4 x1.toNatClampNeg (φ 4 ((15 + x1).toNatClampNeg))) 5 x1.toNatClampNeg (φ 5 ((15 + x1).toNatClampNeg)))) hC rfl rfl hq rfl ?_
      refine qr_s hC (n := 2) (pc' := 31) (ls' := [.ref 0, .int (x1 + 1)]) (st' := []) (h' := mw (qm_u (qm_u (qm_u φ 3 x1.toNatClampNeg (φ 3 ((15 + x1).toNatClampNeg))) 4 x1.toNatClampNeg (φ 4 ((15 + x1).toNatClampNeg))) 5 x1.toNatClampNeg (φ 5 ((15 + x1).toNatClampNeg)))) rfl ?_
      exact ih (qm_u (qm_u (qm_u φ 3 x1.toNatClampNeg (φ 3 ((15 + x1).toNatClampNeg))) 4 x1.toNatClampNeg (φ 4 ((15 + x1).toNatClampNeg))) 5 x1.toNatClampNeg (φ 5 ((15 + x1).toNatClampNeg))) (x1 + 1) _ hs
set_option maxRecDepth 100000 in
theorem mo_copies_L2_n (F d : Nat) (hd : 0 ≤ d) : ∀ (n : Nat) (φ : qm_F) (x1 : Int32) (r : qm_F), mo_copies_L2 F n φ x1 = some r → qm_Rn d 75 2 [.ref 0, .int x1] [] (mw φ) (none, mw r) := by
  have hC := qC_75
  intro n
  induction n with
  | zero => intro φ x1 r hs; simp [mo_copies_L2] at hs
  | succ n ih =>
    intro φ x1 r hs
    rw [mo_copies_L2] at hs
    refine qr_s hC (n := 2) (pc' := 5) (ls' := [.ref 0, .int x1]) (st' := [.int 7, .int x1]) (h' := mw φ) rfl ?_
    refine qr_ge2 (tgt := 29) hC rfl (by decide) rfl (fun hc => ?_) (fun hc => ?_)
    · rw [if_pos hc] at hs
      refine qr_s hC (n := 2) (pc' := 31) (ls' := [.ref 0, .int 0]) (st' := []) (h' := mw φ) rfl ?_
      exact mo_copies_L31_n F d (by omega) F φ 0 _ hs
    · rw [if_neg hc] at hs
      refine qr_s hC (n := 8) (pc' := 21) (ls' := [.ref 0, .int x1]) (st' := [.int (7 + x1), .ref 2, .int x1, .ref 2]) (h' := mw φ) rfl ?_
      obtain ⟨hq, hs⟩ := qg_s hs
      refine qr_ia (v := φ 2 ((7 + x1).toNatClampNeg)) hC rfl rfl hq rfl ?_
      obtain ⟨hq, hs⟩ := qg_s hs
      refine qr_is (h' := mw (qm_u φ 2 x1.toNatClampNeg (φ 2 ((7 + x1).toNatClampNeg)))) hC rfl rfl hq rfl ?_
      refine qr_s hC (n := 2) (pc' := 2) (ls' := [.ref 0, .int (x1 + 1)]) (st' := []) (h' := mw (qm_u φ 2 x1.toNatClampNeg (φ 2 ((7 + x1).toNatClampNeg)))) rfl ?_
      exact ih (qm_u φ 2 x1.toNatClampNeg (φ 2 ((7 + x1).toNatClampNeg))) (x1 + 1) _ hs
set_option maxRecDepth 100000 in
theorem mo_copies_n (F d : Nat) (φ : qm_F) (r : qm_F) (hd : 0 ≤ d) (hs : mo_copies F φ = some r) : qm_Rn d 75 0 [.ref 0, .retAddr 0] [] (mw φ) (none, mw r) := by
  have hC := qC_75
  unfold mo_copies at hs
  refine qr_s hC (n := 2) (pc' := 2) (ls' := [.ref 0, .int 0]) (st' := []) (h' := mw φ) rfl ?_
  exact mo_copies_L2_n F d (by omega) F φ 0 _ hs
