/-- SketchFillerModel.needed(I)I -/
def mo_needed (F : Nat) (φ : qm_F) (x1 : Int32) : Option (Int32 × qm_F) :=
  if (φ 0 12) = 0 then
    some ((-1), (qm_u φ 0 0 0))
  else
    qb1 (mo_within F (qm_u φ 0 0 0) (Int32.toInt64 x1) 0 (Int32.toInt64 ((φ 0 45) - 1))) fun y1 =>
    if ¬ y1 = 0 then
      qb2 (mo_manyOf F (qm_u φ 0 0 0) 0) fun y2 φ1 =>
      qg (qm_in x1 40) <|
      qb2 (mo_manyOf F (qm_u φ1 21 x1.toNatClampNeg 1) 0) fun y3 φ2 =>
      qg (qm_in x1 40) <|
      if y3 ≤ y2 then
        some (0, (qm_u φ2 21 x1.toNatClampNeg 0))
      else
        some (1, (qm_u φ2 21 x1.toNatClampNeg 0))
    else
      some ((-1), (qm_u φ 0 0 0))
set_option maxRecDepth 100000 in
theorem mo_needed_n (F d : Nat) (φ : qm_F) (x1 : Int32) (r : (Int32 × qm_F)) (hd : 51 ≤ d) (hs : mo_needed F φ x1 = some r) : qm_Rn d 135 0 [.ref 0, .int x1, .retAddr 0, .retAddr 0] [] (mw φ) (some (.int r.1), mw r.2) := by
  obtain ⟨d, rfl⟩ : ∃ e, d = e + 1 := ⟨d - 1, by omega⟩
  have hC := qC_135
  unfold mo_needed at hs
  refine qr_s hC (n := 5) (pc' := 9) (ls' := [.ref 0, .int x1, .retAddr 0, .retAddr 0]) (st' := [.int (φ 0 12)]) (h' := mw (qm_u φ 0 0 0)) rfl ?_
  refine qr_eq1 (tgt := 28) hC rfl (by decide) rfl (fun hc => ?_) (fun hc => ?_)
  · rw [if_pos hc] at hs
    refine qr_s hC (n := 1) (pc' := 29) (ls' := [.ref 0, .int x1, .retAddr 0, .retAddr 0]) (st' := [.int (-1)]) (h' := mw (qm_u φ 0 0 0)) rfl ?_
    have hs := Option.some.inj hs
    subst hs
    exact qr_r hC rfl rfl
  · rw [if_neg hc] at hs
    refine qr_s hC (n := 8) (pc' := 22) (ls' := [.ref 0, .int x1, .retAddr 0, .retAddr 0]) (st' := [.long (Int32.toInt64 ((φ 0 45) - 1)), .long 0, .long (Int32.toInt64 x1)]) (h' := mw (qm_u φ 0 0 0)) rfl ?_
    obtain ⟨y1, hy, hs⟩ := qb1_s hs
    refine qr_c (j := 31) (as := [.long (Int32.toInt64 x1), .long 0, .long (Int32.toInt64 ((φ 0 45) - 1))]) (rest := []) (v := some (.int y1)) (h1 := mw (qm_u φ 0 0 0)) hC rfl rfl qC_31 rfl rfl (mo_within_n F d (qm_u φ 0 0 0) (Int32.toInt64 x1) 0 (Int32.toInt64 ((φ 0 45) - 1)) _ (by omega) hy) ?_
    show qm_Rn (d + 1) 135 25 [.ref 0, .int x1, .retAddr 0, .retAddr 0] [.int y1] (mw (qm_u φ 0 0 0)) _
    refine qr_ne1 (tgt := 30) hC rfl (by decide) rfl (fun hc => ?_) (fun hc => ?_)
    · rw [if_pos hc] at hs
      refine qr_s hC (n := 2) (pc' := 32) (ls' := [.ref 0, .int x1, .retAddr 0, .retAddr 0]) (st' := [.int 0, .ref 0]) (h' := mw (qm_u φ 0 0 0)) rfl ?_
      obtain ⟨y2, φ1, hy, hs⟩ := qb2_s hs
      refine qr_c (j := 115) (as := [.ref 0, .int 0]) (rest := []) (v := some (.int y2)) (h1 := mw φ1) hC rfl rfl qC_115 rfl rfl (mo_manyOf_n F d (qm_u φ 0 0 0) 0 _ (by omega) hy) ?_
      show qm_Rn (d + 1) 135 35 [.ref 0, .int x1, .retAddr 0, .retAddr 0] [.int y2] (mw φ1) _
      refine qr_s hC (n := 5) (pc' := 42) (ls' := [.ref 0, .int x1, .int y2, .retAddr 0]) (st' := [.int 1, .int x1, .ref 21]) (h' := mw φ1) rfl ?_
      obtain ⟨hq, hs⟩ := qg_s hs
      refine qr_zs (h' := mw (qm_u φ1 21 x1.toNatClampNeg 1)) hC rfl rfl hq (by decide) rfl ?_
      refine qr_s hC (n := 2) (pc' := 45) (ls' := [.ref 0, .int x1, .int y2, .retAddr 0]) (st' := [.int 0, .ref 0]) (h' := mw (qm_u φ1 21 x1.toNatClampNeg 1)) rfl ?_
      obtain ⟨y3, φ2, hy, hs⟩ := qb2_s hs
      refine qr_c (j := 115) (as := [.ref 0, .int 0]) (rest := []) (v := some (.int y3)) (h1 := mw φ2) hC rfl rfl qC_115 rfl rfl (mo_manyOf_n F d (qm_u φ1 21 x1.toNatClampNeg 1) 0 _ (by omega) hy) ?_
      show qm_Rn (d + 1) 135 48 [.ref 0, .int x1, .int y2, .retAddr 0] [.int y3] (mw φ2) _
      refine qr_s hC (n := 5) (pc' := 55) (ls' := [.ref 0, .int x1, .int y2, .int y3]) (st' := [.int 0, .int x1, .ref 21]) (h' := mw φ2) rfl ?_
      obtain ⟨hq, hs⟩ := qg_s hs
      refine qr_zs (h' := mw (qm_u φ2 21 x1.toNatClampNeg 0)) hC rfl rfl hq (by decide) rfl ?_
      refine qr_s hC (n := 2) (pc' := 58) (ls' := [.ref 0, .int x1, .int y2, .int y3]) (st' := [.int y2, .int y3]) (h' := mw (qm_u φ2 21 x1.toNatClampNeg 0)) rfl ?_
      refine qr_le2 (tgt := 65) hC rfl (by decide) rfl (fun hc => ?_) (fun hc => ?_)
      · rw [if_pos hc] at hs
        refine qr_s hC (n := 1) (pc' := 66) (ls' := [.ref 0, .int x1, .int y2, .int y3]) (st' := [.int 0]) (h' := mw (qm_u φ2 21 x1.toNatClampNeg 0)) rfl ?_
        have hs := Option.some.inj hs
        subst hs
        exact qr_r hC rfl rfl
      · rw [if_neg hc] at hs
        refine qr_s hC (n := 2) (pc' := 66) (ls' := [.ref 0, .int x1, .int y2, .int y3]) (st' := [.int 1]) (h' := mw (qm_u φ2 21 x1.toNatClampNeg 0)) rfl ?_
        have hs := Option.some.inj hs
        subst hs
        exact qr_r hC rfl rfl
    · rw [if_neg hc] at hs
      refine qr_s hC (n := 1) (pc' := 29) (ls' := [.ref 0, .int x1, .retAddr 0, .retAddr 0]) (st' := [.int (-1)]) (h' := mw (qm_u φ 0 0 0)) rfl ?_
      have hs := Option.some.inj hs
      subst hs
      exact qr_r hC rfl rfl
/-- SketchFillerModel.core(I)I -/
def mo_core_L126 (F : Nat) : Nat → qm_F → Int32 → Int32 → Int32 → Int32 → Option (Int32 × qm_F)
  | 0, _, _, _, _, _ => none
  | n + 1, φ, x1, x3, x4, x5 =>
    if 40 ≤ x5 then
      if ¬ x1 = (-1) then
        some (x4, φ)
      else
        some (x3, φ)
    else
      qg (qm_in x5 40) <|
      mo_core_L126 F n (qm_u φ 21 x5.toNatClampNeg 0) x1 x3 x4 (x5 + 1)
def mo_core_L73 (F : Nat) : Nat → qm_F → Int32 → Int32 → Int32 → Int32 → Option (Int32 × qm_F)
  | 0, _, _, _, _, _ => none
  | n + 1, φ, x1, x3, x4, x5 =>
    if (φ 0 45) ≤ x5 then
      mo_core_L126 F F φ x1 x3 x4 0
    else
      qg (qm_in x5 40) <|
      if (φ 21 x5.toNatClampNeg) = 0 then
        if ¬ x3 = x1 then
          mo_core_L73 F n φ x1 (x3 + 1) x4 (x5 + 1)
        else
          qg (qm_in x5 40) <|
          mo_core_L73 F n φ x1 (x3 + 1) (φ 20 x5.toNatClampNeg) (x5 + 1)
      else
        mo_core_L73 F n φ x1 x3 x4 (x5 + 1)
def mo_core_L32 (F : Nat) : Nat → qm_F → Int32 → Int32 → Int32 → Option (Int32 × qm_F)
  | 0, _, _, _, _ => none
  | n + 1, φ, x1, x2, x3 =>
    if x3 < 0 then
      mo_core_L73 F F φ x1 0 (-1) 0
    else
      qg (qm_in x3 40) <|
      qb2 (mo_manyOf F (qm_u φ 21 x3.toNatClampNeg 1) 0) fun y1 φ1 =>
      if y1 = x2 then
        mo_core_L32 F n φ1 x1 x2 (x3 + (-1))
      else
        qg (qm_in x3 40) <|
        mo_core_L32 F n (qm_u φ1 21 x3.toNatClampNeg 0) x1 x2 (x3 + (-1))
def mo_core (F : Nat) (φ : qm_F) (x1 : Int32) : Option (Int32 × qm_F) :=
  if (φ 0 12) = 0 then
    some ((-1), (qm_u φ 0 0 0))
  else
    if (-1) ≤ x1 then
      qb2 (mo_manyOf F (qm_u φ 0 0 0) 0) fun y1 φ1 =>
      mo_core_L32 F F φ1 x1 y1 ((φ1 0 45) - 1)
    else
      some ((-1), (qm_u φ 0 0 0))
set_option maxRecDepth 100000 in
theorem mo_core_L126_n (F d : Nat) (hd : 51 ≤ d) : ∀ (n : Nat) (φ : qm_F) (x1 : Int32) (x3 : Int32) (x4 : Int32) (x5 : Int32) (r : (Int32 × qm_F)), mo_core_L126 F n φ x1 x3 x4 x5 = some r → qm_Rn d 136 126 [.ref 0, .int x1, .retAddr 0, .int x3, .int x4, .int x5] [] (mw φ) (some (.int r.1), mw r.2) := by
  obtain ⟨d, rfl⟩ : ∃ e, d = e + 1 := ⟨d - 1, by omega⟩
  have hC := qC_136
  intro n
  induction n with
  | zero => intro φ x1 x3 x4 x5 r hs; simp [mo_core_L126] at hs
  | succ n ih =>
    intro φ x1 x3 x4 x5 r hs
    rw [mo_core_L126] at hs
    refine qr_s hC (n := 2) (pc' := 130) (ls' := [.ref 0, .int x1, .retAddr 0, .int x3, .int x4, .int x5]) (st' := [.int 40, .int x5]) (h' := mw φ) rfl ?_
    refine qr_ge2 (tgt := 147) hC rfl (by decide) rfl (fun hc => ?_) (fun hc => ?_)
    · rw [if_pos hc] at hs
      refine qr_s hC (n := 2) (pc' := 149) (ls' := [.ref 0, .int x1, .retAddr 0, .int x3, .int x4, .int x5]) (st' := [.int (-1), .int x1]) (h' := mw φ) rfl ?_
      refine qr_ne2 (tgt := 156) hC rfl (by decide) rfl (fun hc => ?_) (fun hc => ?_)
      · rw [if_pos hc] at hs
        refine qr_s hC (n := 1) (pc' := 158) (ls' := [.ref 0, .int x1, .retAddr 0, .int x3, .int x4, .int x5]) (st' := [.int x4]) (h' := mw φ) rfl ?_
        have hs := Option.some.inj hs
        subst hs
        exact qr_r hC rfl rfl
      · rw [if_neg hc] at hs
        refine qr_s hC (n := 2) (pc' := 158) (ls' := [.ref 0, .int x1, .retAddr 0, .int x3, .int x4, .int x5]) (st' := [.int x3]) (h' := mw φ) rfl ?_
        have hs := Option.some.inj hs
        subst hs
        exact qr_r hC rfl rfl
    · rw [if_neg hc] at hs
      refine qr_s hC (n := 4) (pc' := 140) (ls' := [.ref 0, .int x1, .retAddr 0, .int x3, .int x4, .int x5]) (st' := [.int 0, .int x5, .ref 21]) (h' := mw φ) rfl ?_
      obtain ⟨hq, hs⟩ := qg_s hs
      refine qr_zs (h' := mw (qm_u φ 21 x5.toNatClampNeg 0)) hC rfl rfl hq (by decide) rfl ?_
      refine qr_s hC (n := 2) (pc' := 126) (ls' := [.ref 0, .int x1, .retAddr 0, .int x3, .int x4, .int (x5 + 1)]) (st' := []) (h' := mw (qm_u φ 21 x5.toNatClampNeg 0)) rfl ?_
      exact ih (qm_u φ 21 x5.toNatClampNeg 0) x1 x3 x4 (x5 + 1) _ hs
set_option maxRecDepth 100000 in
theorem mo_core_L73_n (F d : Nat) (hd : 51 ≤ d) : ∀ (n : Nat) (φ : qm_F) (x1 : Int32) (x3 : Int32) (x4 : Int32) (x5 : Int32) (r : (Int32 × qm_F)), mo_core_L73 F n φ x1 x3 x4 x5 = some r → qm_Rn d 136 73 [.ref 0, .int x1, .retAddr 0, .int x3, .int x4, .int x5] [] (mw φ) (some (.int r.1), mw r.2) := by
  obtain ⟨d, rfl⟩ : ∃ e, d = e + 1 := ⟨d - 1, by omega⟩
  have hC := qC_136
  intro n
  induction n with
  | zero => intro φ x1 x3 x4 x5 r hs; simp [mo_core_L73] at hs
  | succ n ih =>
    intro φ x1 x3 x4 x5 r hs
    rw [mo_core_L73] at hs
    refine qr_s hC (n := 3) (pc' := 79) (ls' := [.ref 0, .int x1, .retAddr 0, .int x3, .int x4, .int x5]) (st' := [.int (φ 0 45), .int x5]) (h' := mw φ) rfl ?_
    refine qr_ge2 (tgt := 123) hC rfl (by decide) rfl (fun hc => ?_) (fun hc => ?_)
    · rw [if_pos hc] at hs
      refine qr_s hC (n := 2) (pc' := 126) (ls' := [.ref 0, .int x1, .retAddr 0, .int x3, .int x4, .int 0]) (st' := []) (h' := mw φ) rfl ?_
      exact mo_core_L126_n F (d + 1) (by omega) F φ x1 x3 x4 0 _ hs
    · rw [if_neg hc] at hs
      refine qr_s hC (n := 3) (pc' := 88) (ls' := [.ref 0, .int x1, .retAddr 0, .int x3, .int x4, .int x5]) (st' := [.int x5, .ref 21]) (h' := mw φ) rfl ?_
      obtain ⟨hq, hs⟩ := qg_s hs
      refine qr_za (v := φ 21 x5.toNatClampNeg) hC rfl rfl hq rfl ?_
      refine qr_eq1 (tgt := 95) hC rfl (by decide) rfl (fun hc => ?_) (fun hc => ?_)
      · rw [if_pos hc] at hs
        refine qr_s hC (n := 2) (pc' := 97) (ls' := [.ref 0, .int x1, .retAddr 0, .int x3, .int x4, .int x5]) (st' := [.int x1, .int x3]) (h' := mw φ) rfl ?_
        refine qr_ne2 (tgt := 110) hC rfl (by decide) rfl (fun hc => ?_) (fun hc => ?_)
        · rw [if_pos hc] at hs
          refine qr_s hC (n := 5) (pc' := 73) (ls' := [.ref 0, .int x1, .retAddr 0, .int (x3 + 1), .int x4, .int (x5 + 1)]) (st' := []) (h' := mw φ) rfl ?_
          exact ih φ x1 (x3 + 1) x4 (x5 + 1) _ hs
        · rw [if_neg hc] at hs
          refine qr_s hC (n := 3) (pc' := 106) (ls' := [.ref 0, .int x1, .retAddr 0, .int x3, .int x4, .int x5]) (st' := [.int x5, .ref 20]) (h' := mw φ) rfl ?_
          obtain ⟨hq, hs⟩ := qg_s hs
          refine qr_ia (v := φ 20 x5.toNatClampNeg) hC rfl rfl hq rfl ?_
          refine qr_s hC (n := 5) (pc' := 73) (ls' := [.ref 0, .int x1, .retAddr 0, .int (x3 + 1), .int (φ 20 x5.toNatClampNeg), .int (x5 + 1)]) (st' := []) (h' := mw φ) rfl ?_
          exact ih φ x1 (x3 + 1) (φ 20 x5.toNatClampNeg) (x5 + 1) _ hs
      · rw [if_neg hc] at hs
        refine qr_s hC (n := 3) (pc' := 73) (ls' := [.ref 0, .int x1, .retAddr 0, .int x3, .int x4, .int (x5 + 1)]) (st' := []) (h' := mw φ) rfl ?_
        exact ih φ x1 x3 x4 (x5 + 1) _ hs
set_option maxRecDepth 100000 in
theorem mo_core_L32_n (F d : Nat) (hd : 51 ≤ d) : ∀ (n : Nat) (φ : qm_F) (x1 : Int32) (x2 : Int32) (x3 : Int32) (r : (Int32 × qm_F)), mo_core_L32 F n φ x1 x2 x3 = some r → qm_Rn d 136 32 [.ref 0, .int x1, .int x2, .int x3, .retAddr 0, .retAddr 0] [] (mw φ) (some (.int r.1), mw r.2) := by
  obtain ⟨d, rfl⟩ : ∃ e, d = e + 1 := ⟨d - 1, by omega⟩
  have hC := qC_136
  intro n
  induction n with
  | zero => intro φ x1 x2 x3 r hs; simp [mo_core_L32] at hs
  | succ n ih =>
    intro φ x1 x2 x3 r hs
    rw [mo_core_L32] at hs
    refine qr_s hC (n := 1) (pc' := 33) (ls' := [.ref 0, .int x1, .int x2, .int x3, .retAddr 0, .retAddr 0]) (st' := [.int x3]) (h' := mw φ) rfl ?_
    refine qr_lt1 (tgt := 65) hC rfl (by decide) rfl (fun hc => ?_) (fun hc => ?_)
    · rw [if_pos hc] at hs
      refine qr_s hC (n := 6) (pc' := 73) (ls' := [.ref 0, .int x1, .int x2, .int 0, .int (-1), .int 0]) (st' := []) (h' := mw φ) rfl ?_
      exact qr_w (a := [.ref 0, .int x1, .retAddr 0, .int 0, .int (-1), .int 0]) ⟨Or.inr rfl, Or.inr rfl, Or.inl rfl, Or.inr rfl, Or.inr rfl, Or.inr rfl, trivial⟩ (mo_core_L73_n F (d + 1) (by omega) F φ x1 0 (-1) 0 _ hs)
    · rw [if_neg hc] at hs
      refine qr_s hC (n := 4) (pc' := 42) (ls' := [.ref 0, .int x1, .int x2, .int x3, .retAddr 0, .retAddr 0]) (st' := [.int 1, .int x3, .ref 21]) (h' := mw φ) rfl ?_
      obtain ⟨hq, hs⟩ := qg_s hs
      refine qr_zs (h' := mw (qm_u φ 21 x3.toNatClampNeg 1)) hC rfl rfl hq (by decide) rfl ?_
      refine qr_s hC (n := 2) (pc' := 45) (ls' := [.ref 0, .int x1, .int x2, .int x3, .retAddr 0, .retAddr 0]) (st' := [.int 0, .ref 0]) (h' := mw (qm_u φ 21 x3.toNatClampNeg 1)) rfl ?_
      obtain ⟨y1, φ1, hy, hs⟩ := qb2_s hs
      refine qr_c (j := 115) (as := [.ref 0, .int 0]) (rest := []) (v := some (.int y1)) (h1 := mw φ1) hC rfl rfl qC_115 rfl rfl (mo_manyOf_n F d (qm_u φ 21 x3.toNatClampNeg 1) 0 _ (by omega) hy) ?_
      show qm_Rn (d + 1) 136 48 [.ref 0, .int x1, .int x2, .int x3, .retAddr 0, .retAddr 0] [.int y1] (mw φ1) _
      refine qr_s hC (n := 1) (pc' := 49) (ls' := [.ref 0, .int x1, .int x2, .int x3, .retAddr 0, .retAddr 0]) (st' := [.int x2, .int y1]) (h' := mw φ1) rfl ?_
      refine qr_eq2 (tgt := 59) hC rfl (by decide) rfl (fun hc => ?_) (fun hc => ?_)
      · rw [if_pos hc] at hs
        refine qr_s hC (n := 2) (pc' := 32) (ls' := [.ref 0, .int x1, .int x2, .int (x3 + (-1)), .retAddr 0, .retAddr 0]) (st' := []) (h' := mw φ1) rfl ?_
        exact ih φ1 x1 x2 (x3 + (-1)) _ hs
      · rw [if_neg hc] at hs
        refine qr_s hC (n := 4) (pc' := 58) (ls' := [.ref 0, .int x1, .int x2, .int x3, .retAddr 0, .retAddr 0]) (st' := [.int 0, .int x3, .ref 21]) (h' := mw φ1) rfl ?_
        obtain ⟨hq, hs⟩ := qg_s hs
        refine qr_zs (h' := mw (qm_u φ1 21 x3.toNatClampNeg 0)) hC rfl rfl hq (by decide) rfl ?_
        refine qr_s hC (n := 2) (pc' := 32) (ls' := [.ref 0, .int x1, .int x2, .int (x3 + (-1)), .retAddr 0, .retAddr 0]) (st' := []) (h' := mw (qm_u φ1 21 x3.toNatClampNeg 0)) rfl ?_
        exact ih (qm_u φ1 21 x3.toNatClampNeg 0) x1 x2 (x3 + (-1)) _ hs
set_option maxRecDepth 100000 in
theorem mo_core_n (F d : Nat) (φ : qm_F) (x1 : Int32) (r : (Int32 × qm_F)) (hd : 51 ≤ d) (hs : mo_core F φ x1 = some r) : qm_Rn d 136 0 [.ref 0, .int x1, .retAddr 0, .retAddr 0, .retAddr 0, .retAddr 0] [] (mw φ) (some (.int r.1), mw r.2) := by
  obtain ⟨d, rfl⟩ : ∃ e, d = e + 1 := ⟨d - 1, by omega⟩
  have hC := qC_136
  unfold mo_core at hs
  refine qr_s hC (n := 5) (pc' := 9) (ls' := [.ref 0, .int x1, .retAddr 0, .retAddr 0, .retAddr 0, .retAddr 0]) (st' := [.int (φ 0 12)]) (h' := mw (qm_u φ 0 0 0)) rfl ?_
  refine qr_eq1 (tgt := 17) hC rfl (by decide) rfl (fun hc => ?_) (fun hc => ?_)
  · rw [if_pos hc] at hs
    refine qr_s hC (n := 1) (pc' := 18) (ls' := [.ref 0, .int x1, .retAddr 0, .retAddr 0, .retAddr 0, .retAddr 0]) (st' := [.int (-1)]) (h' := mw (qm_u φ 0 0 0)) rfl ?_
    have hs := Option.some.inj hs
    subst hs
    exact qr_r hC rfl rfl
  · rw [if_neg hc] at hs
    refine qr_s hC (n := 2) (pc' := 14) (ls' := [.ref 0, .int x1, .retAddr 0, .retAddr 0, .retAddr 0, .retAddr 0]) (st' := [.int (-1), .int x1]) (h' := mw (qm_u φ 0 0 0)) rfl ?_
    refine qr_ge2 (tgt := 19) hC rfl (by decide) rfl (fun hc => ?_) (fun hc => ?_)
    · rw [if_pos hc] at hs
      refine qr_s hC (n := 2) (pc' := 21) (ls' := [.ref 0, .int x1, .retAddr 0, .retAddr 0, .retAddr 0, .retAddr 0]) (st' := [.int 0, .ref 0]) (h' := mw (qm_u φ 0 0 0)) rfl ?_
      obtain ⟨y1, φ1, hy, hs⟩ := qb2_s hs
      refine qr_c (j := 115) (as := [.ref 0, .int 0]) (rest := []) (v := some (.int y1)) (h1 := mw φ1) hC rfl rfl qC_115 rfl rfl (mo_manyOf_n F d (qm_u φ 0 0 0) 0 _ (by omega) hy) ?_
      show qm_Rn (d + 1) 136 24 [.ref 0, .int x1, .retAddr 0, .retAddr 0, .retAddr 0, .retAddr 0] [.int y1] (mw φ1) _
      refine qr_s hC (n := 6) (pc' := 32) (ls' := [.ref 0, .int x1, .int y1, .int ((φ1 0 45) - 1), .retAddr 0, .retAddr 0]) (st' := []) (h' := mw φ1) rfl ?_
      exact mo_core_L32_n F (d + 1) (by omega) F φ1 x1 y1 ((φ1 0 45) - 1) _ hs
    · rw [if_neg hc] at hs
      refine qr_s hC (n := 1) (pc' := 18) (ls' := [.ref 0, .int x1, .retAddr 0, .retAddr 0, .retAddr 0, .retAddr 0]) (st' := [.int (-1)]) (h' := mw (qm_u φ 0 0 0)) rfl ?_
      have hs := Option.some.inj hs
      subst hs
      exact qr_r hC rfl rfl
/-- SketchFillerModel.areAlike(II)Z -/
def mo_areAlike_L2 (F : Nat) : Nat → qm_F → Int32 → Int32 → Int32 → Option (Int32 × qm_F)
  | 0, _, _, _, _ => none
  | n + 1, φ, x1, x2, x3 =>
    qb1 (mo_inputs F φ) fun y1 =>
    if y1 ≤ x3 then
      some (1, φ)
    else
      qb2 (mo_verdictOf F φ x1 x3) fun y2 φ1 =>
      qb2 (mo_verdictOf F φ1 x2 x3) fun y3 φ2 =>
      if y2 = y3 then
        mo_areAlike_L2 F n φ2 x1 x2 (x3 + 1)
      else
        some (0, φ2)
def mo_areAlike (F : Nat) (φ : qm_F) (x1 : Int32) (x2 : Int32) : Option (Int32 × qm_F) :=
  mo_areAlike_L2 F F φ x1 x2 0
set_option maxRecDepth 100000 in
theorem mo_areAlike_L2_n (F d : Nat) (hd : 48 ≤ d) : ∀ (n : Nat) (φ : qm_F) (x1 : Int32) (x2 : Int32) (x3 : Int32) (r : (Int32 × qm_F)), mo_areAlike_L2 F n φ x1 x2 x3 = some r → qm_Rn d 137 2 [.ref 0, .int x1, .int x2, .int x3] [] (mw φ) (some (.int r.1), mw r.2) := by
  obtain ⟨d, rfl⟩ : ∃ e, d = e + 1 := ⟨d - 1, by omega⟩
  have hC := qC_137
  intro n
  induction n with
  | zero => intro φ x1 x2 x3 r hs; simp [mo_areAlike_L2] at hs
  | succ n ih =>
    intro φ x1 x2 x3 r hs
    rw [mo_areAlike_L2] at hs
    refine qr_s hC (n := 2) (pc' := 4) (ls' := [.ref 0, .int x1, .int x2, .int x3]) (st' := [.ref 0, .int x3]) (h' := mw φ) rfl ?_
    obtain ⟨y1, hy, hs⟩ := qb1_s hs
    refine qr_c (j := 79) (as := [.ref 0]) (rest := [.int x3]) (v := some (.int y1)) (h1 := mw φ) hC rfl rfl qC_79 rfl rfl (mo_inputs_n F d φ _ (by omega) hy) ?_
    show qm_Rn (d + 1) 137 7 [.ref 0, .int x1, .int x2, .int x3] [.int y1, .int x3] (mw φ) _
    refine qr_ge2 (tgt := 33) hC rfl (by decide) rfl (fun hc => ?_) (fun hc => ?_)
    · rw [if_pos hc] at hs
      refine qr_s hC (n := 1) (pc' := 34) (ls' := [.ref 0, .int x1, .int x2, .int x3]) (st' := [.int 1]) (h' := mw φ) rfl ?_
      have hs := Option.some.inj hs
      subst hs
      exact qr_r hC rfl rfl
    · rw [if_neg hc] at hs
      refine qr_s hC (n := 3) (pc' := 13) (ls' := [.ref 0, .int x1, .int x2, .int x3]) (st' := [.int x3, .int x1, .ref 0]) (h' := mw φ) rfl ?_
      obtain ⟨y2, φ1, hy, hs⟩ := qb2_s hs
      refine qr_c (j := 108) (as := [.ref 0, .int x1, .int x3]) (rest := []) (v := some (.int y2)) (h1 := mw φ1) hC rfl rfl qC_108 rfl rfl (mo_verdictOf_n F d φ x1 x3 _ (by omega) hy) ?_
      show qm_Rn (d + 1) 137 16 [.ref 0, .int x1, .int x2, .int x3] [.int y2] (mw φ1) _
      refine qr_s hC (n := 3) (pc' := 19) (ls' := [.ref 0, .int x1, .int x2, .int x3]) (st' := [.int x3, .int x2, .ref 0, .int y2]) (h' := mw φ1) rfl ?_
      obtain ⟨y3, φ2, hy, hs⟩ := qb2_s hs
      refine qr_c (j := 108) (as := [.ref 0, .int x2, .int x3]) (rest := [.int y2]) (v := some (.int y3)) (h1 := mw φ2) hC rfl rfl qC_108 rfl rfl (mo_verdictOf_n F d φ1 x2 x3 _ (by omega) hy) ?_
      show qm_Rn (d + 1) 137 22 [.ref 0, .int x1, .int x2, .int x3] [.int y3, .int y2] (mw φ2) _
      refine qr_eq2 (tgt := 27) hC rfl (by decide) rfl (fun hc => ?_) (fun hc => ?_)
      · rw [if_pos hc] at hs
        refine qr_s hC (n := 2) (pc' := 2) (ls' := [.ref 0, .int x1, .int x2, .int (x3 + 1)]) (st' := []) (h' := mw φ2) rfl ?_
        exact ih φ2 x1 x2 (x3 + 1) _ hs
      · rw [if_neg hc] at hs
        refine qr_s hC (n := 1) (pc' := 26) (ls' := [.ref 0, .int x1, .int x2, .int x3]) (st' := [.int 0]) (h' := mw φ2) rfl ?_
        have hs := Option.some.inj hs
        subst hs
        exact qr_r hC rfl rfl
set_option maxRecDepth 100000 in
theorem mo_areAlike_n (F d : Nat) (φ : qm_F) (x1 : Int32) (x2 : Int32) (r : (Int32 × qm_F)) (hd : 48 ≤ d) (hs : mo_areAlike F φ x1 x2 = some r) : qm_Rn d 137 0 [.ref 0, .int x1, .int x2, .retAddr 0] [] (mw φ) (some (.int r.1), mw r.2) := by
  obtain ⟨d, rfl⟩ : ∃ e, d = e + 1 := ⟨d - 1, by omega⟩
  have hC := qC_137
  unfold mo_areAlike at hs
  refine qr_s hC (n := 2) (pc' := 2) (ls' := [.ref 0, .int x1, .int x2, .int 0]) (st' := []) (h' := mw φ) rfl ?_
  exact mo_areAlike_L2_n F (d + 1) (by omega) F φ x1 x2 0 _ hs
/-- SketchFillerModel.isFirstLike(I)Z -/
def mo_isFirstLike_L2 (F : Nat) : Nat → qm_F → Int32 → Int32 → Option (Int32 × qm_F)
  | 0, _, _, _ => none
  | n + 1, φ, x1, x2 =>
    if x1 ≤ x2 then
      some (1, φ)
    else
      qb2 (mo_isLeft F φ x2) fun y1 φ1 =>
      if y1 = 0 then
        mo_isFirstLike_L2 F n φ1 x1 (x2 + 1)
      else
        qb2 (mo_areAlike F φ1 x2 x1) fun y2 φ2 =>
        if y2 = 0 then
          mo_isFirstLike_L2 F n φ2 x1 (x2 + 1)
        else
          some (0, φ2)
def mo_isFirstLike (F : Nat) (φ : qm_F) (x1 : Int32) : Option (Int32 × qm_F) :=
  mo_isFirstLike_L2 F F φ x1 0
set_option maxRecDepth 100000 in
theorem mo_isFirstLike_L2_n (F d : Nat) (hd : 49 ≤ d) : ∀ (n : Nat) (φ : qm_F) (x1 : Int32) (x2 : Int32) (r : (Int32 × qm_F)), mo_isFirstLike_L2 F n φ x1 x2 = some r → qm_Rn d 138 2 [.ref 0, .int x1, .int x2] [] (mw φ) (some (.int r.1), mw r.2) := by
  obtain ⟨d, rfl⟩ : ∃ e, d = e + 1 := ⟨d - 1, by omega⟩
  have hC := qC_138
  intro n
  induction n with
  | zero => intro φ x1 x2 r hs; simp [mo_isFirstLike_L2] at hs
  | succ n ih =>
    intro φ x1 x2 r hs
    rw [mo_isFirstLike_L2] at hs
    refine qr_s hC (n := 2) (pc' := 4) (ls' := [.ref 0, .int x1, .int x2]) (st' := [.int x1, .int x2]) (h' := mw φ) rfl ?_
    refine qr_ge2 (tgt := 32) hC rfl (by decide) rfl (fun hc => ?_) (fun hc => ?_)
    · rw [if_pos hc] at hs
      refine qr_s hC (n := 1) (pc' := 33) (ls' := [.ref 0, .int x1, .int x2]) (st' := [.int 1]) (h' := mw φ) rfl ?_
      have hs := Option.some.inj hs
      subst hs
      exact qr_r hC rfl rfl
    · rw [if_neg hc] at hs
      refine qr_s hC (n := 2) (pc' := 9) (ls' := [.ref 0, .int x1, .int x2]) (st' := [.int x2, .ref 0]) (h' := mw φ) rfl ?_
      obtain ⟨y1, φ1, hy, hs⟩ := qb2_s hs
      refine qr_c (j := 112) (as := [.ref 0, .int x2]) (rest := []) (v := some (.int y1)) (h1 := mw φ1) hC rfl rfl qC_112 rfl rfl (mo_isLeft_n F d φ x2 _ (by omega) hy) ?_
      show qm_Rn (d + 1) 138 12 [.ref 0, .int x1, .int x2] [.int y1] (mw φ1) _
      refine qr_eq1 (tgt := 26) hC rfl (by decide) rfl (fun hc => ?_) (fun hc => ?_)
      · rw [if_pos hc] at hs
        refine qr_s hC (n := 2) (pc' := 2) (ls' := [.ref 0, .int x1, .int (x2 + 1)]) (st' := []) (h' := mw φ1) rfl ?_
        exact ih φ1 x1 (x2 + 1) _ hs
      · rw [if_neg hc] at hs
        refine qr_s hC (n := 3) (pc' := 18) (ls' := [.ref 0, .int x1, .int x2]) (st' := [.int x1, .int x2, .ref 0]) (h' := mw φ1) rfl ?_
        obtain ⟨y2, φ2, hy, hs⟩ := qb2_s hs
        refine qr_c (j := 137) (as := [.ref 0, .int x2, .int x1]) (rest := []) (v := some (.int y2)) (h1 := mw φ2) hC rfl rfl qC_137 rfl rfl (mo_areAlike_n F d φ1 x2 x1 _ (by omega) hy) ?_
        show qm_Rn (d + 1) 138 21 [.ref 0, .int x1, .int x2] [.int y2] (mw φ2) _
        refine qr_eq1 (tgt := 26) hC rfl (by decide) rfl (fun hc => ?_) (fun hc => ?_)
        · rw [if_pos hc] at hs
          refine qr_s hC (n := 2) (pc' := 2) (ls' := [.ref 0, .int x1, .int (x2 + 1)]) (st' := []) (h' := mw φ2) rfl ?_
          exact ih φ2 x1 (x2 + 1) _ hs
        · rw [if_neg hc] at hs
          refine qr_s hC (n := 1) (pc' := 25) (ls' := [.ref 0, .int x1, .int x2]) (st' := [.int 0]) (h' := mw φ2) rfl ?_
          have hs := Option.some.inj hs
          subst hs
          exact qr_r hC rfl rfl
set_option maxRecDepth 100000 in
theorem mo_isFirstLike_n (F d : Nat) (φ : qm_F) (x1 : Int32) (r : (Int32 × qm_F)) (hd : 49 ≤ d) (hs : mo_isFirstLike F φ x1 = some r) : qm_Rn d 138 0 [.ref 0, .int x1, .retAddr 0] [] (mw φ) (some (.int r.1), mw r.2) := by
  obtain ⟨d, rfl⟩ : ∃ e, d = e + 1 := ⟨d - 1, by omega⟩
  have hC := qC_138
  unfold mo_isFirstLike at hs
  refine qr_s hC (n := 2) (pc' := 2) (ls' := [.ref 0, .int x1, .int 0]) (st' := []) (h' := mw φ) rfl ?_
  exact mo_isFirstLike_L2_n F (d + 1) (by omega) F φ x1 0 _ hs
/-- SketchFillerModel.kinds()I -/
def mo_kinds_L18 (F : Nat) : Nat → qm_F → Int32 → Int32 → Option (Int32 × qm_F)
  | 0, _, _, _ => none
  | n + 1, φ, x1, x2 =>
    qb1 (mo_guesses F φ) fun y1 =>
    if y1 ≤ x2 then
      some (x1, φ)
    else
      qb2 (mo_isLeft F φ x2) fun y2 φ1 =>
      if y2 = 0 then
        mo_kinds_L18 F n φ1 (x1 + 0) (x2 + 1)
      else
        qb2 (mo_isFirstLike F φ1 x2) fun y3 φ2 =>
        if y3 = 0 then
          mo_kinds_L18 F n φ2 (x1 + 0) (x2 + 1)
        else
          mo_kinds_L18 F n φ2 (x1 + 1) (x2 + 1)
def mo_kinds (F : Nat) (φ : qm_F) : Option (Int32 × qm_F) :=
  if ¬ (φ 0 12) = 0 then
    mo_kinds_L18 F F (qm_u φ 0 0 0) 0 0
  else
    some ((-1), (qm_u φ 0 0 0))
set_option maxRecDepth 100000 in
theorem mo_kinds_L18_n (F d : Nat) (hd : 50 ≤ d) : ∀ (n : Nat) (φ : qm_F) (x1 : Int32) (x2 : Int32) (r : (Int32 × qm_F)), mo_kinds_L18 F n φ x1 x2 = some r → qm_Rn d 139 18 [.ref 0, .int x1, .int x2] [] (mw φ) (some (.int r.1), mw r.2) := by
  obtain ⟨d, rfl⟩ : ∃ e, d = e + 1 := ⟨d - 1, by omega⟩
  have hC := qC_139
  intro n
  induction n with
  | zero => intro φ x1 x2 r hs; simp [mo_kinds_L18] at hs
  | succ n ih =>
    intro φ x1 x2 r hs
    rw [mo_kinds_L18] at hs
    refine qr_s hC (n := 2) (pc' := 20) (ls' := [.ref 0, .int x1, .int x2]) (st' := [.ref 0, .int x2]) (h' := mw φ) rfl ?_
    obtain ⟨y1, hy, hs⟩ := qb1_s hs
    refine qr_c (j := 78) (as := [.ref 0]) (rest := [.int x2]) (v := some (.int y1)) (h1 := mw φ) hC rfl rfl qC_78 rfl rfl (mo_guesses_n F d φ _ (by omega) hy) ?_
    show qm_Rn (d + 1) 139 23 [.ref 0, .int x1, .int x2] [.int y1, .int x2] (mw φ) _
    refine qr_ge2 (tgt := 56) hC rfl (by decide) rfl (fun hc => ?_) (fun hc => ?_)
    · rw [if_pos hc] at hs
      refine qr_s hC (n := 1) (pc' := 57) (ls' := [.ref 0, .int x1, .int x2]) (st' := [.int x1]) (h' := mw φ) rfl ?_
      have hs := Option.some.inj hs
      subst hs
      exact qr_r hC rfl rfl
    · rw [if_neg hc] at hs
      refine qr_s hC (n := 3) (pc' := 29) (ls' := [.ref 0, .int x1, .int x2]) (st' := [.int x2, .ref 0, .int x1]) (h' := mw φ) rfl ?_
      obtain ⟨y2, φ1, hy, hs⟩ := qb2_s hs
      refine qr_c (j := 112) (as := [.ref 0, .int x2]) (rest := [.int x1]) (v := some (.int y2)) (h1 := mw φ1) hC rfl rfl qC_112 rfl rfl (mo_isLeft_n F d φ x2 _ (by omega) hy) ?_
      show qm_Rn (d + 1) 139 32 [.ref 0, .int x1, .int x2] [.int y2, .int x1] (mw φ1) _
      refine qr_eq1 (tgt := 47) hC rfl (by decide) rfl (fun hc => ?_) (fun hc => ?_)
      · rw [if_pos hc] at hs
        refine qr_s hC (n := 5) (pc' := 18) (ls' := [.ref 0, .int (x1 + 0), .int (x2 + 1)]) (st' := []) (h' := mw φ1) rfl ?_
        exact ih φ1 (x1 + 0) (x2 + 1) _ hs
      · rw [if_neg hc] at hs
        refine qr_s hC (n := 2) (pc' := 37) (ls' := [.ref 0, .int x1, .int x2]) (st' := [.int x2, .ref 0, .int x1]) (h' := mw φ1) rfl ?_
        obtain ⟨y3, φ2, hy, hs⟩ := qb2_s hs
        refine qr_c (j := 138) (as := [.ref 0, .int x2]) (rest := [.int x1]) (v := some (.int y3)) (h1 := mw φ2) hC rfl rfl qC_138 rfl rfl (mo_isFirstLike_n F d φ1 x2 _ (by omega) hy) ?_
        show qm_Rn (d + 1) 139 40 [.ref 0, .int x1, .int x2] [.int y3, .int x1] (mw φ2) _
        refine qr_eq1 (tgt := 47) hC rfl (by decide) rfl (fun hc => ?_) (fun hc => ?_)
        · rw [if_pos hc] at hs
          refine qr_s hC (n := 5) (pc' := 18) (ls' := [.ref 0, .int (x1 + 0), .int (x2 + 1)]) (st' := []) (h' := mw φ2) rfl ?_
          exact ih φ2 (x1 + 0) (x2 + 1) _ hs
        · rw [if_neg hc] at hs
          refine qr_s hC (n := 6) (pc' := 18) (ls' := [.ref 0, .int (x1 + 1), .int (x2 + 1)]) (st' := []) (h' := mw φ2) rfl ?_
          exact ih φ2 (x1 + 1) (x2 + 1) _ hs
set_option maxRecDepth 100000 in
theorem mo_kinds_n (F d : Nat) (φ : qm_F) (r : (Int32 × qm_F)) (hd : 50 ≤ d) (hs : mo_kinds F φ = some r) : qm_Rn d 139 0 [.ref 0, .retAddr 0, .retAddr 0] [] (mw φ) (some (.int r.1), mw r.2) := by
  obtain ⟨d, rfl⟩ : ∃ e, d = e + 1 := ⟨d - 1, by omega⟩
  have hC := qC_139
  unfold mo_kinds at hs
  refine qr_s hC (n := 5) (pc' := 9) (ls' := [.ref 0, .retAddr 0, .retAddr 0]) (st' := [.int (φ 0 12)]) (h' := mw (qm_u φ 0 0 0)) rfl ?_
  refine qr_ne1 (tgt := 14) hC rfl (by decide) rfl (fun hc => ?_) (fun hc => ?_)
  · rw [if_pos hc] at hs
    refine qr_s hC (n := 4) (pc' := 18) (ls' := [.ref 0, .int 0, .int 0]) (st' := []) (h' := mw (qm_u φ 0 0 0)) rfl ?_
    exact mo_kinds_L18_n F (d + 1) (by omega) F (qm_u φ 0 0 0) 0 0 _ hs
  · rw [if_neg hc] at hs
    refine qr_s hC (n := 1) (pc' := 13) (ls' := [.ref 0, .retAddr 0, .retAddr 0]) (st' := [.int (-1)]) (h' := mw (qm_u φ 0 0 0)) rfl ?_
    have hs := Option.some.inj hs
    subst hs
    exact qr_r hC rfl rfl
/-- SketchFillerModel.alike(II)Z -/
def mo_alike (F : Nat) (φ : qm_F) (x1 : Int32) (x2 : Int32) : Option (Int32 × qm_F) :=
  qb1 (mo_isGuess F (qm_u φ 0 0 0) x1) fun y1 =>
  if y1 = 0 then
    some (0, (qm_u φ 0 0 0))
  else
    qb1 (mo_isGuess F (qm_u φ 0 0 0) x2) fun y2 =>
    if y2 = 0 then
      some (0, (qm_u φ 0 0 0))
    else
      qb2 (mo_areAlike F (qm_u φ 0 0 0) x1 x2) fun y3 φ1 =>
      if y3 = 0 then
        some (0, φ1)
      else
        some (1, φ1)
set_option maxRecDepth 100000 in
theorem mo_alike_n (F d : Nat) (φ : qm_F) (x1 : Int32) (x2 : Int32) (r : (Int32 × qm_F)) (hd : 49 ≤ d) (hs : mo_alike F φ x1 x2 = some r) : qm_Rn d 140 0 [.ref 0, .int x1, .int x2] [] (mw φ) (some (.int r.1), mw r.2) := by
  obtain ⟨d, rfl⟩ : ∃ e, d = e + 1 := ⟨d - 1, by omega⟩
  have hC := qC_140
  unfold mo_alike at hs
  refine qr_s hC (n := 5) (pc' := 7) (ls' := [.ref 0, .int x1, .int x2]) (st' := [.int x1, .ref 0]) (h' := mw (qm_u φ 0 0 0)) rfl ?_
  obtain ⟨y1, hy, hs⟩ := qb1_s hs
  refine qr_c (j := 80) (as := [.ref 0, .int x1]) (rest := []) (v := some (.int y1)) (h1 := mw (qm_u φ 0 0 0)) hC rfl rfl qC_80 rfl rfl (mo_isGuess_n F d (qm_u φ 0 0 0) x1 _ (by omega) hy) ?_
  show qm_Rn (d + 1) 140 10 [.ref 0, .int x1, .int x2] [.int y1] (mw (qm_u φ 0 0 0)) _
  refine qr_eq1 (tgt := 34) hC rfl (by decide) rfl (fun hc => ?_) (fun hc => ?_)
  · rw [if_pos hc] at hs
    refine qr_s hC (n := 1) (pc' := 35) (ls' := [.ref 0, .int x1, .int x2]) (st' := [.int 0]) (h' := mw (qm_u φ 0 0 0)) rfl ?_
    have hs := Option.some.inj hs
    subst hs
    exact qr_r hC rfl rfl
  · rw [if_neg hc] at hs
    refine qr_s hC (n := 2) (pc' := 15) (ls' := [.ref 0, .int x1, .int x2]) (st' := [.int x2, .ref 0]) (h' := mw (qm_u φ 0 0 0)) rfl ?_
    obtain ⟨y2, hy, hs⟩ := qb1_s hs
    refine qr_c (j := 80) (as := [.ref 0, .int x2]) (rest := []) (v := some (.int y2)) (h1 := mw (qm_u φ 0 0 0)) hC rfl rfl qC_80 rfl rfl (mo_isGuess_n F d (qm_u φ 0 0 0) x2 _ (by omega) hy) ?_
    show qm_Rn (d + 1) 140 18 [.ref 0, .int x1, .int x2] [.int y2] (mw (qm_u φ 0 0 0)) _
    refine qr_eq1 (tgt := 34) hC rfl (by decide) rfl (fun hc => ?_) (fun hc => ?_)
    · rw [if_pos hc] at hs
      refine qr_s hC (n := 1) (pc' := 35) (ls' := [.ref 0, .int x1, .int x2]) (st' := [.int 0]) (h' := mw (qm_u φ 0 0 0)) rfl ?_
      have hs := Option.some.inj hs
      subst hs
      exact qr_r hC rfl rfl
    · rw [if_neg hc] at hs
      refine qr_s hC (n := 3) (pc' := 24) (ls' := [.ref 0, .int x1, .int x2]) (st' := [.int x2, .int x1, .ref 0]) (h' := mw (qm_u φ 0 0 0)) rfl ?_
      obtain ⟨y3, φ1, hy, hs⟩ := qb2_s hs
      refine qr_c (j := 137) (as := [.ref 0, .int x1, .int x2]) (rest := []) (v := some (.int y3)) (h1 := mw φ1) hC rfl rfl qC_137 rfl rfl (mo_areAlike_n F d (qm_u φ 0 0 0) x1 x2 _ (by omega) hy) ?_
      show qm_Rn (d + 1) 140 27 [.ref 0, .int x1, .int x2] [.int y3] (mw φ1) _
      refine qr_eq1 (tgt := 34) hC rfl (by decide) rfl (fun hc => ?_) (fun hc => ?_)
      · rw [if_pos hc] at hs
        refine qr_s hC (n := 1) (pc' := 35) (ls' := [.ref 0, .int x1, .int x2]) (st' := [.int 0]) (h' := mw φ1) rfl ?_
        have hs := Option.some.inj hs
        subst hs
        exact qr_r hC rfl rfl
      · rw [if_neg hc] at hs
        refine qr_s hC (n := 2) (pc' := 35) (ls' := [.ref 0, .int x1, .int x2]) (st' := [.int 1]) (h' := mw φ1) rfl ?_
        have hs := Option.some.inj hs
        subst hs
        exact qr_r hC rfl rfl
/-- SketchFillerModel.writes(I)V -/
def mo_writes (F : Nat) (φ : qm_F) (x1 : Int32) : Option qm_F :=
  if ¬ (φ 0 49) = (φ 0 48) then
    some (qm_u φ 0 49 ((φ 0 49) + 1))
  else
    some (qm_u (qm_u φ 0 50 x1) 0 49 ((φ 0 49) + 1))
set_option maxRecDepth 100000 in
theorem mo_writes_n (F d : Nat) (φ : qm_F) (x1 : Int32) (r : qm_F) (hd : 0 ≤ d) (hs : mo_writes F φ x1 = some r) : qm_Rn d 141 0 [.ref 0, .int x1] [] (mw φ) (none, mw r) := by
  have hC := qC_141
  unfold mo_writes at hs
  refine qr_s hC (n := 4) (pc' := 8) (ls' := [.ref 0, .int x1]) (st' := [.int (φ 0 48), .int (φ 0 49)]) (h' := mw φ) rfl ?_
  refine qr_ne2 (tgt := 16) hC rfl (by decide) rfl (fun hc => ?_) (fun hc => ?_)
  · rw [if_pos hc] at hs
    refine qr_s hC (n := 6) (pc' := 26) (ls' := [.ref 0, .int x1]) (st' := []) (h' := mw (qm_u φ 0 49 ((φ 0 49) + 1))) rfl ?_
    have hs := Option.some.inj hs
    subst hs
    exact qr_r hC rfl rfl
  · rw [if_neg hc] at hs
    refine qr_s hC (n := 9) (pc' := 26) (ls' := [.ref 0, .int x1]) (st' := []) (h' := mw (qm_u (qm_u φ 0 50 x1) 0 49 ((φ 0 49) + 1))) rfl ?_
    have hs := Option.some.inj hs
    subst hs
    exact qr_r hC rfl rfl
/-- SketchFillerModel.writesNumber(I)V -/
def mo_writesNumber_L18 (F : Nat) : Nat → qm_F → Int32 → Int32 → Option qm_F
  | 0, _, _, _ => none
  | n + 1, φ, x1, x2 =>
    if x2 ≤ 0 then
      some φ
    else
      qg (!decide (x2 = 0)) <|
      qb1 (mo_writes F φ (48 + ((x1 / x2) - (x1 / x2) / 10 * 10))) fun φ1 =>
      mo_writesNumber_L18 F n φ1 x1 (x2 / 10)
def mo_writesNumber_L2 (F : Nat) : Nat → qm_F → Int32 → Int32 → Option qm_F
  | 0, _, _, _ => none
  | n + 1, φ, x1, x2 =>
    qg (!decide (x2 = 0)) <|
    if (x1 / x2) ≤ 9 then
      mo_writesNumber_L18 F F φ x1 x2
    else
      mo_writesNumber_L2 F n φ x1 (x2 * 10)
def mo_writesNumber (F : Nat) (φ : qm_F) (x1 : Int32) : Option qm_F :=
  mo_writesNumber_L2 F F φ x1 1
set_option maxRecDepth 100000 in
theorem mo_writesNumber_L18_n (F d : Nat) (hd : 1 ≤ d) : ∀ (n : Nat) (φ : qm_F) (x1 : Int32) (x2 : Int32) (r : qm_F), mo_writesNumber_L18 F n φ x1 x2 = some r → qm_Rn d 142 18 [.ref 0, .int x1, .int x2] [] (mw φ) (none, mw r) := by
  obtain ⟨d, rfl⟩ : ∃ e, d = e + 1 := ⟨d - 1, by omega⟩
  have hC := qC_142
  intro n
  induction n with
  | zero => intro φ x1 x2 r hs; simp [mo_writesNumber_L18] at hs
  | succ n ih =>
    intro φ x1 x2 r hs
    rw [mo_writesNumber_L18] at hs
    refine qr_s hC (n := 1) (pc' := 19) (ls' := [.ref 0, .int x1, .int x2]) (st' := [.int x2]) (h' := mw φ) rfl ?_
    refine qr_le1 (tgt := 43) hC rfl (by decide) rfl (fun hc => ?_) (fun hc => ?_)
    · rw [if_pos hc] at hs
      have hs := Option.some.inj hs
      subst hs
      exact qr_r hC rfl rfl
    · rw [if_neg hc] at hs
      refine qr_s hC (n := 4) (pc' := 27) (ls' := [.ref 0, .int x1, .int x2]) (st' := [.int x2, .int x1, .int 48, .ref 0]) (h' := mw φ) rfl ?_
      obtain ⟨hq, hs⟩ := qg_s hs
      refine qr_dv hC rfl hq ?_
      refine qr_s hC (n := 1) (pc' := 30) (ls' := [.ref 0, .int x1, .int x2]) (st' := [.int 10, .int (x1 / x2), .int 48, .ref 0]) (h' := mw φ) rfl ?_
      refine qr_rm hC rfl (by decide) ?_
      refine qr_s hC (n := 1) (pc' := 32) (ls' := [.ref 0, .int x1, .int x2]) (st' := [.int (48 + ((x1 / x2) - (x1 / x2) / 10 * 10)), .ref 0]) (h' := mw φ) rfl ?_
      obtain ⟨φ1, hy, hs⟩ := qb1_s hs
      refine qr_c (j := 141) (as := [.ref 0, .int (48 + ((x1 / x2) - (x1 / x2) / 10 * 10))]) (rest := []) (v := none) (h1 := mw φ1) hC rfl rfl qC_141 rfl rfl (mo_writes_n F d φ (48 + ((x1 / x2) - (x1 / x2) / 10 * 10)) _ (by omega) hy) ?_
      show qm_Rn (d + 1) 142 35 [.ref 0, .int x1, .int x2] [] (mw φ1) _
      refine qr_s hC (n := 2) (pc' := 38) (ls' := [.ref 0, .int x1, .int x2]) (st' := [.int 10, .int x2]) (h' := mw φ1) rfl ?_
      refine qr_dv hC rfl (by decide) ?_
      refine qr_s hC (n := 2) (pc' := 18) (ls' := [.ref 0, .int x1, .int (x2 / 10)]) (st' := []) (h' := mw φ1) rfl ?_
      exact ih φ1 x1 (x2 / 10) _ hs
set_option maxRecDepth 100000 in
theorem mo_writesNumber_L2_n (F d : Nat) (hd : 1 ≤ d) : ∀ (n : Nat) (φ : qm_F) (x1 : Int32) (x2 : Int32) (r : qm_F), mo_writesNumber_L2 F n φ x1 x2 = some r → qm_Rn d 142 2 [.ref 0, .int x1, .int x2] [] (mw φ) (none, mw r) := by
  obtain ⟨d, rfl⟩ : ∃ e, d = e + 1 := ⟨d - 1, by omega⟩
  have hC := qC_142
  intro n
  induction n with
  | zero => intro φ x1 x2 r hs; simp [mo_writesNumber_L2] at hs
  | succ n ih =>
    intro φ x1 x2 r hs
    rw [mo_writesNumber_L2] at hs
    refine qr_s hC (n := 2) (pc' := 4) (ls' := [.ref 0, .int x1, .int x2]) (st' := [.int x2, .int x1]) (h' := mw φ) rfl ?_
    obtain ⟨hq, hs⟩ := qg_s hs
    refine qr_dv hC rfl hq ?_
    refine qr_s hC (n := 1) (pc' := 7) (ls' := [.ref 0, .int x1, .int x2]) (st' := [.int 9, .int (x1 / x2)]) (h' := mw φ) rfl ?_
    refine qr_le2 (tgt := 18) hC rfl (by decide) rfl (fun hc => ?_) (fun hc => ?_)
    · rw [if_pos hc] at hs
      exact mo_writesNumber_L18_n F (d + 1) (by omega) F φ x1 x2 _ hs
    · rw [if_neg hc] at hs
      refine qr_s hC (n := 5) (pc' := 2) (ls' := [.ref 0, .int x1, .int (x2 * 10)]) (st' := []) (h' := mw φ) rfl ?_
      exact ih φ x1 (x2 * 10) _ hs
set_option maxRecDepth 100000 in
theorem mo_writesNumber_n (F d : Nat) (φ : qm_F) (x1 : Int32) (r : qm_F) (hd : 1 ≤ d) (hs : mo_writesNumber F φ x1 = some r) : qm_Rn d 142 0 [.ref 0, .int x1, .retAddr 0] [] (mw φ) (none, mw r) := by
  obtain ⟨d, rfl⟩ : ∃ e, d = e + 1 := ⟨d - 1, by omega⟩
  have hC := qC_142
  unfold mo_writesNumber at hs
  refine qr_s hC (n := 2) (pc' := 2) (ls' := [.ref 0, .int x1, .int 1]) (st' := []) (h' := mw φ) rfl ?_
  exact mo_writesNumber_L2_n F (d + 1) (by omega) F φ x1 1 _ hs
/-- SketchFillerModel.isDigit(I)Z -/
def mo_isDigit (F : Nat) (φ : qm_F) (x0 : Int32) : Option Int32 :=
  if x0 < 48 then
    some 0
  else
    if 57 < x0 then
      some 0
    else
      some 1
set_option maxRecDepth 100000 in
theorem mo_isDigit_n (F d : Nat) (φ : qm_F) (x0 : Int32) (r : Int32) (hd : 0 ≤ d) (hs : mo_isDigit F φ x0 = some r) : qm_Rn d 143 0 [.int x0] [] (mw φ) (some (.int r), mw φ) := by
  have hC := qC_143
  unfold mo_isDigit at hs
  refine qr_s hC (n := 2) (pc' := 3) (ls' := [.int x0]) (st' := [.int 48, .int x0]) (h' := mw φ) rfl ?_
  refine qr_lt2 (tgt := 16) hC rfl (by decide) rfl (fun hc => ?_) (fun hc => ?_)
  · rw [if_pos hc] at hs
    refine qr_s hC (n := 1) (pc' := 17) (ls' := [.int x0]) (st' := [.int 0]) (h' := mw φ) rfl ?_
    have hs := Option.some.inj hs
    subst hs
    exact qr_r hC rfl rfl
  · rw [if_neg hc] at hs
    refine qr_s hC (n := 2) (pc' := 9) (ls' := [.int x0]) (st' := [.int 57, .int x0]) (h' := mw φ) rfl ?_
    refine qr_gt2 (tgt := 16) hC rfl (by decide) rfl (fun hc => ?_) (fun hc => ?_)
    · rw [if_pos hc] at hs
      refine qr_s hC (n := 1) (pc' := 17) (ls' := [.int x0]) (st' := [.int 0]) (h' := mw φ) rfl ?_
      have hs := Option.some.inj hs
      subst hs
      exact qr_r hC rfl rfl
    · rw [if_neg hc] at hs
      refine qr_s hC (n := 2) (pc' := 17) (ls' := [.int x0]) (st' := [.int 1]) (h' := mw φ) rfl ?_
      have hs := Option.some.inj hs
      subst hs
      exact qr_r hC rfl rfl
/-- SketchFillerModel.holeAt(II)I -/
def mo_holeAt_L35 (F : Nat) : Nat → qm_F → Int32 → Int32 → Int32 → Option Int32
  | 0, _, _, _, _ => none
  | n + 1, φ, x1, x3, x4 =>
    if (φ 2 2) ≤ x4 then
      some (-1)
    else
      qg (qm_in x1 1600) <|
      if (φ 11 x1.toNatClampNeg) < 97 then
        some (-1)
      else
        qg (qm_in x1 1600) <|
        if 122 < (φ 11 x1.toNatClampNeg) then
          some (-1)
        else
          qg (qm_in (3 + x4) 30) <|
          if ¬ (φ 3 ((3 + x4).toNatClampNeg)) = x3 then
            mo_holeAt_L35 F n φ x1 x3 (x4 + 1)
          else
            some x4
def mo_holeAt_L5 (F : Nat) : Nat → qm_F → Int32 → Int32 → Int32 → Int32 → Option Int32
  | 0, _, _, _, _, _ => none
  | n + 1, φ, x1, x2, x3, x4 =>
    if x2 ≤ x4 then
      mo_holeAt_L35 F F φ x1 x3 0
    else
      qg (qm_in x4 1600) <|
      mo_holeAt_L5 F n φ x1 x2 ((x3 <<< (5 &&& 31)) ||| ((φ 11 x4.toNatClampNeg) &&& 31)) (x4 + 1)
def mo_holeAt (F : Nat) (φ : qm_F) (x1 : Int32) (x2 : Int32) : Option Int32 :=
  mo_holeAt_L5 F F φ x1 x2 0 x1
set_option maxRecDepth 100000 in
theorem mo_holeAt_L35_n (F d : Nat) (hd : 0 ≤ d) : ∀ (n : Nat) (φ : qm_F) (x1 : Int32) (x3 : Int32) (x4 : Int32) (r : Int32), mo_holeAt_L35 F n φ x1 x3 x4 = some r → qm_Rn d 144 35 [.ref 0, .int x1, .retAddr 0, .int x3, .int x4] [] (mw φ) (some (.int r), mw φ) := by
  have hC := qC_144
  intro n
  induction n with
  | zero => intro φ x1 x3 x4 r hs; simp [mo_holeAt_L35] at hs
  | succ n ih =>
    intro φ x1 x3 x4 r hs
    rw [mo_holeAt_L35] at hs
    refine qr_s hC (n := 4) (pc' := 42) (ls' := [.ref 0, .int x1, .retAddr 0, .int x3, .int x4]) (st' := [.int 2, .ref 2, .int x4]) (h' := mw φ) rfl ?_
    refine qr_ia (v := φ 2 2) hC rfl rfl (by decide) rfl ?_
    refine qr_ge2 (tgt := 90) hC rfl (by decide) rfl (fun hc => ?_) (fun hc => ?_)
    · rw [if_pos hc] at hs
      refine qr_s hC (n := 1) (pc' := 91) (ls' := [.ref 0, .int x1, .retAddr 0, .int x3, .int x4]) (st' := [.int (-1)]) (h' := mw φ) rfl ?_
      have hs := Option.some.inj hs
      subst hs
      exact qr_r hC rfl rfl
    · rw [if_neg hc] at hs
      refine qr_s hC (n := 3) (pc' := 51) (ls' := [.ref 0, .int x1, .retAddr 0, .int x3, .int x4]) (st' := [.int x1, .ref 11]) (h' := mw φ) rfl ?_
      obtain ⟨hq, hs⟩ := qg_s hs
      refine qr_ba (v := φ 11 x1.toNatClampNeg) hC rfl rfl hq rfl ?_
      refine qr_s hC (n := 1) (pc' := 54) (ls' := [.ref 0, .int x1, .retAddr 0, .int x3, .int x4]) (st' := [.int 97, .int (φ 11 x1.toNatClampNeg)]) (h' := mw φ) rfl ?_
      refine qr_lt2 (tgt := 90) hC rfl (by decide) rfl (fun hc => ?_) (fun hc => ?_)
      · rw [if_pos hc] at hs
        refine qr_s hC (n := 1) (pc' := 91) (ls' := [.ref 0, .int x1, .retAddr 0, .int x3, .int x4]) (st' := [.int (-1)]) (h' := mw φ) rfl ?_
        have hs := Option.some.inj hs
        subst hs
        exact qr_r hC rfl rfl
      · rw [if_neg hc] at hs
        refine qr_s hC (n := 3) (pc' := 62) (ls' := [.ref 0, .int x1, .retAddr 0, .int x3, .int x4]) (st' := [.int x1, .ref 11]) (h' := mw φ) rfl ?_
        obtain ⟨hq, hs⟩ := qg_s hs
        refine qr_ba (v := φ 11 x1.toNatClampNeg) hC rfl rfl hq rfl ?_
        refine qr_s hC (n := 1) (pc' := 65) (ls' := [.ref 0, .int x1, .retAddr 0, .int x3, .int x4]) (st' := [.int 122, .int (φ 11 x1.toNatClampNeg)]) (h' := mw φ) rfl ?_
        refine qr_gt2 (tgt := 90) hC rfl (by decide) rfl (fun hc => ?_) (fun hc => ?_)
        · rw [if_pos hc] at hs
          refine qr_s hC (n := 1) (pc' := 91) (ls' := [.ref 0, .int x1, .retAddr 0, .int x3, .int x4]) (st' := [.int (-1)]) (h' := mw φ) rfl ?_
          have hs := Option.some.inj hs
          subst hs
          exact qr_r hC rfl rfl
        · rw [if_neg hc] at hs
          refine qr_s hC (n := 5) (pc' := 76) (ls' := [.ref 0, .int x1, .retAddr 0, .int x3, .int x4]) (st' := [.int (3 + x4), .ref 3]) (h' := mw φ) rfl ?_
          obtain ⟨hq, hs⟩ := qg_s hs
          refine qr_ia (v := φ 3 ((3 + x4).toNatClampNeg)) hC rfl rfl hq rfl ?_
          refine qr_s hC (n := 1) (pc' := 78) (ls' := [.ref 0, .int x1, .retAddr 0, .int x3, .int x4]) (st' := [.int x3, .int (φ 3 ((3 + x4).toNatClampNeg))]) (h' := mw φ) rfl ?_
          refine qr_ne2 (tgt := 84) hC rfl (by decide) rfl (fun hc => ?_) (fun hc => ?_)
          · rw [if_pos hc] at hs
            refine qr_s hC (n := 2) (pc' := 35) (ls' := [.ref 0, .int x1, .retAddr 0, .int x3, .int (x4 + 1)]) (st' := []) (h' := mw φ) rfl ?_
            exact ih φ x1 x3 (x4 + 1) _ hs
          · rw [if_neg hc] at hs
            refine qr_s hC (n := 1) (pc' := 83) (ls' := [.ref 0, .int x1, .retAddr 0, .int x3, .int x4]) (st' := [.int x4]) (h' := mw φ) rfl ?_
            have hs := Option.some.inj hs
            subst hs
            exact qr_r hC rfl rfl
set_option maxRecDepth 100000 in
theorem mo_holeAt_L5_n (F d : Nat) (hd : 0 ≤ d) : ∀ (n : Nat) (φ : qm_F) (x1 : Int32) (x2 : Int32) (x3 : Int32) (x4 : Int32) (r : Int32), mo_holeAt_L5 F n φ x1 x2 x3 x4 = some r → qm_Rn d 144 5 [.ref 0, .int x1, .int x2, .int x3, .int x4] [] (mw φ) (some (.int r), mw φ) := by
  have hC := qC_144
  intro n
  induction n with
  | zero => intro φ x1 x2 x3 x4 r hs; simp [mo_holeAt_L5] at hs
  | succ n ih =>
    intro φ x1 x2 x3 x4 r hs
    rw [mo_holeAt_L5] at hs
    refine qr_s hC (n := 2) (pc' := 8) (ls' := [.ref 0, .int x1, .int x2, .int x3, .int x4]) (st' := [.int x2, .int x4]) (h' := mw φ) rfl ?_
    refine qr_ge2 (tgt := 32) hC rfl (by decide) rfl (fun hc => ?_) (fun hc => ?_)
    · rw [if_pos hc] at hs
      refine qr_s hC (n := 2) (pc' := 35) (ls' := [.ref 0, .int x1, .int x2, .int x3, .int 0]) (st' := []) (h' := mw φ) rfl ?_
      exact qr_w (a := [.ref 0, .int x1, .retAddr 0, .int x3, .int 0]) ⟨Or.inr rfl, Or.inr rfl, Or.inl rfl, Or.inr rfl, Or.inr rfl, trivial⟩ (mo_holeAt_L35_n F d (by omega) F φ x1 x3 0 _ hs)
    · rw [if_neg hc] at hs
      refine qr_s hC (n := 6) (pc' := 20) (ls' := [.ref 0, .int x1, .int x2, .int x3, .int x4]) (st' := [.int x4, .ref 11, .int (x3 <<< (5 &&& 31))]) (h' := mw φ) rfl ?_
      obtain ⟨hq, hs⟩ := qg_s hs
      refine qr_ba (v := φ 11 x4.toNatClampNeg) hC rfl rfl hq rfl ?_
      refine qr_s hC (n := 6) (pc' := 5) (ls' := [.ref 0, .int x1, .int x2, .int ((x3 <<< (5 &&& 31)) ||| ((φ 11 x4.toNatClampNeg) &&& 31)), .int (x4 + 1)]) (st' := []) (h' := mw φ) rfl ?_
      exact ih φ x1 x2 ((x3 <<< (5 &&& 31)) ||| ((φ 11 x4.toNatClampNeg) &&& 31)) (x4 + 1) _ hs
set_option maxRecDepth 100000 in
theorem mo_holeAt_n (F d : Nat) (φ : qm_F) (x1 : Int32) (x2 : Int32) (r : Int32) (hd : 0 ≤ d) (hs : mo_holeAt F φ x1 x2 = some r) : qm_Rn d 144 0 [.ref 0, .int x1, .int x2, .retAddr 0, .retAddr 0] [] (mw φ) (some (.int r), mw φ) := by
  have hC := qC_144
  unfold mo_holeAt at hs
  refine qr_s hC (n := 4) (pc' := 5) (ls' := [.ref 0, .int x1, .int x2, .int 0, .int x1]) (st' := []) (h' := mw φ) rfl ?_
  exact mo_holeAt_L5_n F d (by omega) F φ x1 x2 0 x1 _ hs
/-- SketchFillerModel.writesToken(II)V -/
def mo_writesToken_L81 (F : Nat) : Nat → qm_F → Int32 → Int32 → Option qm_F
  | 0, _, _, _ => none
  | n + 1, φ, x4, x6 =>
    if x4 ≤ x6 then
      some φ
    else
      qg (qm_in x6 1600) <|
      qb1 (mo_writes F φ (φ 11 x6.toNatClampNeg)) fun φ1 =>
      mo_writesToken_L81 F n φ1 x4 (x6 + 1)
def mo_writesToken_L41 (F : Nat) : Nat → qm_F → Int32 → Int32 → Option qm_F
  | 0, _, _, _ => none
  | n + 1, φ, x3, x4 =>
    qg (qm_in x3 1600) <|
    qb1 (mo_isDigit F φ (φ 11 x3.toNatClampNeg)) fun y1 =>
    if y1 = 0 then
      mo_writesToken_L81 F F φ x4 x3
    else
      if x4 ≤ (x3 + 1) then
        mo_writesToken_L81 F F φ x4 x3
      else
        qg (qm_in x3 1600) <|
        if ¬ (φ 11 x3.toNatClampNeg) = 48 then
          mo_writesToken_L81 F F φ x4 x3
        else
          mo_writesToken_L41 F n φ (x3 + 1) x4
def mo_writesToken (F : Nat) (φ : qm_F) (x1 : Int32) (x2 : Int32) : Option qm_F :=
  qg (qm_in x2 1600) <|
  qg (qm_in x2 1600) <|
  qb1 (mo_holeAt F φ (φ 12 x2.toNatClampNeg) (φ 13 x2.toNatClampNeg)) fun y1 =>
  if y1 < 0 then
    mo_writesToken_L41 F F φ (φ 12 x2.toNatClampNeg) (φ 13 x2.toNatClampNeg)
  else
    qb1 (mo_holeIn F φ x1 y1) fun y2 =>
    qb1 (mo_writesNumber F φ y2) fun φ1 =>
    some φ1
set_option maxRecDepth 100000 in
theorem mo_writesToken_L81_n (F d : Nat) (hd : 2 ≤ d) : ∀ (n : Nat) (φ : qm_F) (x4 : Int32) (x6 : Int32) (r : qm_F), mo_writesToken_L81 F n φ x4 x6 = some r → qm_Rn d 145 81 [.ref 0, .retAddr 0, .retAddr 0, .retAddr 0, .int x4, .retAddr 0, .int x6] [] (mw φ) (none, mw r) := by
  obtain ⟨d, rfl⟩ : ∃ e, d = e + 1 := ⟨d - 1, by omega⟩
  have hC := qC_145
  intro n
  induction n with
  | zero => intro φ x4 x6 r hs; simp [mo_writesToken_L81] at hs
  | succ n ih =>
    intro φ x4 x6 r hs
    rw [mo_writesToken_L81] at hs
    refine qr_s hC (n := 2) (pc' := 85) (ls' := [.ref 0, .retAddr 0, .retAddr 0, .retAddr 0, .int x4, .retAddr 0, .int x6]) (st' := [.int x4, .int x6]) (h' := mw φ) rfl ?_
    refine qr_ge2 (tgt := 105) hC rfl (by decide) rfl (fun hc => ?_) (fun hc => ?_)
    · rw [if_pos hc] at hs
      have hs := Option.some.inj hs
      subst hs
      exact qr_r hC rfl rfl
    · rw [if_neg hc] at hs
      refine qr_s hC (n := 4) (pc' := 95) (ls' := [.ref 0, .retAddr 0, .retAddr 0, .retAddr 0, .int x4, .retAddr 0, .int x6]) (st' := [.int x6, .ref 11, .ref 0]) (h' := mw φ) rfl ?_
      obtain ⟨hq, hs⟩ := qg_s hs
      refine qr_ba (v := φ 11 x6.toNatClampNeg) hC rfl rfl hq rfl ?_
      obtain ⟨φ1, hy, hs⟩ := qb1_s hs
      refine qr_c (j := 141) (as := [.ref 0, .int (φ 11 x6.toNatClampNeg)]) (rest := []) (v := none) (h1 := mw φ1) hC rfl rfl qC_141 rfl rfl (mo_writes_n F d φ (φ 11 x6.toNatClampNeg) _ (by omega) hy) ?_
      show qm_Rn (d + 1) 145 99 [.ref 0, .retAddr 0, .retAddr 0, .retAddr 0, .int x4, .retAddr 0, .int x6] [] (mw φ1) _
      refine qr_s hC (n := 2) (pc' := 81) (ls' := [.ref 0, .retAddr 0, .retAddr 0, .retAddr 0, .int x4, .retAddr 0, .int (x6 + 1)]) (st' := []) (h' := mw φ1) rfl ?_
      exact ih φ1 x4 (x6 + 1) _ hs
set_option maxRecDepth 100000 in
theorem mo_writesToken_L41_n (F d : Nat) (hd : 2 ≤ d) : ∀ (n : Nat) (φ : qm_F) (x3 : Int32) (x4 : Int32) (r : qm_F), mo_writesToken_L41 F n φ x3 x4 = some r → qm_Rn d 145 41 [.ref 0, .retAddr 0, .retAddr 0, .int x3, .int x4, .retAddr 0, .retAddr 0] [] (mw φ) (none, mw r) := by
  obtain ⟨d, rfl⟩ : ∃ e, d = e + 1 := ⟨d - 1, by omega⟩
  have hC := qC_145
  intro n
  induction n with
  | zero => intro φ x3 x4 r hs; simp [mo_writesToken_L41] at hs
  | succ n ih =>
    intro φ x3 x4 r hs
    rw [mo_writesToken_L41] at hs
    refine qr_s hC (n := 3) (pc' := 46) (ls' := [.ref 0, .retAddr 0, .retAddr 0, .int x3, .int x4, .retAddr 0, .retAddr 0]) (st' := [.int x3, .ref 11]) (h' := mw φ) rfl ?_
    obtain ⟨hq, hs⟩ := qg_s hs
    refine qr_ba (v := φ 11 x3.toNatClampNeg) hC rfl rfl hq rfl ?_
    obtain ⟨y1, hy, hs⟩ := qb1_s hs
    refine qr_c (j := 143) (as := [.int (φ 11 x3.toNatClampNeg)]) (rest := []) (v := some (.int y1)) (h1 := mw φ) hC rfl rfl qC_143 rfl rfl (mo_isDigit_n F d φ (φ 11 x3.toNatClampNeg) _ (by omega) hy) ?_
    show qm_Rn (d + 1) 145 50 [.ref 0, .retAddr 0, .retAddr 0, .int x3, .int x4, .retAddr 0, .retAddr 0] [.int y1] (mw φ) _
    refine qr_eq1 (tgt := 78) hC rfl (by decide) rfl (fun hc => ?_) (fun hc => ?_)
    · rw [if_pos hc] at hs
      refine qr_s hC (n := 2) (pc' := 81) (ls' := [.ref 0, .retAddr 0, .retAddr 0, .int x3, .int x4, .retAddr 0, .int x3]) (st' := []) (h' := mw φ) rfl ?_
      exact qr_w (a := [.ref 0, .retAddr 0, .retAddr 0, .retAddr 0, .int x4, .retAddr 0, .int x3]) ⟨Or.inr rfl, Or.inr rfl, Or.inr rfl, Or.inl rfl, Or.inr rfl, Or.inr rfl, Or.inr rfl, trivial⟩ (mo_writesToken_L81_n F (d + 1) (by omega) F φ x4 x3 _ hs)
    · rw [if_neg hc] at hs
      refine qr_s hC (n := 4) (pc' := 58) (ls' := [.ref 0, .retAddr 0, .retAddr 0, .int x3, .int x4, .retAddr 0, .retAddr 0]) (st' := [.int x4, .int (x3 + 1)]) (h' := mw φ) rfl ?_
      refine qr_ge2 (tgt := 78) hC rfl (by decide) rfl (fun hc => ?_) (fun hc => ?_)
      · rw [if_pos hc] at hs
        refine qr_s hC (n := 2) (pc' := 81) (ls' := [.ref 0, .retAddr 0, .retAddr 0, .int x3, .int x4, .retAddr 0, .int x3]) (st' := []) (h' := mw φ) rfl ?_
        exact qr_w (a := [.ref 0, .retAddr 0, .retAddr 0, .retAddr 0, .int x4, .retAddr 0, .int x3]) ⟨Or.inr rfl, Or.inr rfl, Or.inr rfl, Or.inl rfl, Or.inr rfl, Or.inr rfl, Or.inr rfl, trivial⟩ (mo_writesToken_L81_n F (d + 1) (by omega) F φ x4 x3 _ hs)
      · rw [if_neg hc] at hs
        refine qr_s hC (n := 3) (pc' := 66) (ls' := [.ref 0, .retAddr 0, .retAddr 0, .int x3, .int x4, .retAddr 0, .retAddr 0]) (st' := [.int x3, .ref 11]) (h' := mw φ) rfl ?_
        obtain ⟨hq, hs⟩ := qg_s hs
        refine qr_ba (v := φ 11 x3.toNatClampNeg) hC rfl rfl hq rfl ?_
        refine qr_s hC (n := 1) (pc' := 69) (ls' := [.ref 0, .retAddr 0, .retAddr 0, .int x3, .int x4, .retAddr 0, .retAddr 0]) (st' := [.int 48, .int (φ 11 x3.toNatClampNeg)]) (h' := mw φ) rfl ?_
        refine qr_ne2 (tgt := 78) hC rfl (by decide) rfl (fun hc => ?_) (fun hc => ?_)
        · rw [if_pos hc] at hs
          refine qr_s hC (n := 2) (pc' := 81) (ls' := [.ref 0, .retAddr 0, .retAddr 0, .int x3, .int x4, .retAddr 0, .int x3]) (st' := []) (h' := mw φ) rfl ?_
          exact qr_w (a := [.ref 0, .retAddr 0, .retAddr 0, .retAddr 0, .int x4, .retAddr 0, .int x3]) ⟨Or.inr rfl, Or.inr rfl, Or.inr rfl, Or.inl rfl, Or.inr rfl, Or.inr rfl, Or.inr rfl, trivial⟩ (mo_writesToken_L81_n F (d + 1) (by omega) F φ x4 x3 _ hs)
        · rw [if_neg hc] at hs
          refine qr_s hC (n := 2) (pc' := 41) (ls' := [.ref 0, .retAddr 0, .retAddr 0, .int (x3 + 1), .int x4, .retAddr 0, .retAddr 0]) (st' := []) (h' := mw φ) rfl ?_
          exact ih φ (x3 + 1) x4 _ hs
set_option maxRecDepth 100000 in
theorem mo_writesToken_n (F d : Nat) (φ : qm_F) (x1 : Int32) (x2 : Int32) (r : qm_F) (hd : 2 ≤ d) (hs : mo_writesToken F φ x1 x2 = some r) : qm_Rn d 145 0 [.ref 0, .int x1, .int x2, .retAddr 0, .retAddr 0, .retAddr 0, .retAddr 0] [] (mw φ) (none, mw r) := by
  obtain ⟨d, rfl⟩ : ∃ e, d = e + 1 := ⟨d - 1, by omega⟩
  have hC := qC_145
  unfold mo_writesToken at hs
  refine qr_s hC (n := 3) (pc' := 5) (ls' := [.ref 0, .int x1, .int x2, .retAddr 0, .retAddr 0, .retAddr 0, .retAddr 0]) (st' := [.int x2, .ref 12]) (h' := mw φ) rfl ?_
  obtain ⟨hq, hs⟩ := qg_s hs
  refine qr_ia (v := φ 12 x2.toNatClampNeg) hC rfl rfl hq rfl ?_
  refine qr_s hC (n := 4) (pc' := 12) (ls' := [.ref 0, .int x1, .int x2, .int (φ 12 x2.toNatClampNeg), .retAddr 0, .retAddr 0, .retAddr 0]) (st' := [.int x2, .ref 13]) (h' := mw φ) rfl ?_
  obtain ⟨hq, hs⟩ := qg_s hs
  refine qr_ia (v := φ 13 x2.toNatClampNeg) hC rfl rfl hq rfl ?_
  refine qr_s hC (n := 4) (pc' := 19) (ls' := [.ref 0, .int x1, .int x2, .int (φ 12 x2.toNatClampNeg), .int (φ 13 x2.toNatClampNeg), .retAddr 0, .retAddr 0]) (st' := [.int (φ 13 x2.toNatClampNeg), .int (φ 12 x2.toNatClampNeg), .ref 0]) (h' := mw φ) rfl ?_
  obtain ⟨y1, hy, hs⟩ := qb1_s hs
  refine qr_c (j := 144) (as := [.ref 0, .int (φ 12 x2.toNatClampNeg), .int (φ 13 x2.toNatClampNeg)]) (rest := []) (v := some (.int y1)) (h1 := mw φ) hC rfl rfl qC_144 rfl rfl (mo_holeAt_n F d φ (φ 12 x2.toNatClampNeg) (φ 13 x2.toNatClampNeg) _ (by omega) hy) ?_
  show qm_Rn (d + 1) 145 22 [.ref 0, .int x1, .int x2, .int (φ 12 x2.toNatClampNeg), .int (φ 13 x2.toNatClampNeg), .retAddr 0, .retAddr 0] [.int y1] (mw φ) _
  refine qr_s hC (n := 2) (pc' := 26) (ls' := [.ref 0, .int x1, .int x2, .int (φ 12 x2.toNatClampNeg), .int (φ 13 x2.toNatClampNeg), .int y1, .retAddr 0]) (st' := [.int y1]) (h' := mw φ) rfl ?_
  refine qr_lt1 (tgt := 41) hC rfl (by decide) rfl (fun hc => ?_) (fun hc => ?_)
  · rw [if_pos hc] at hs
    exact qr_w (a := [.ref 0, .retAddr 0, .retAddr 0, .int (φ 12 x2.toNatClampNeg), .int (φ 13 x2.toNatClampNeg), .retAddr 0, .retAddr 0]) ⟨Or.inr rfl, Or.inl rfl, Or.inl rfl, Or.inr rfl, Or.inr rfl, Or.inl rfl, Or.inr rfl, trivial⟩ (mo_writesToken_L41_n F (d + 1) (by omega) F φ (φ 12 x2.toNatClampNeg) (φ 13 x2.toNatClampNeg) _ hs)
  · rw [if_neg hc] at hs
    refine qr_s hC (n := 4) (pc' := 34) (ls' := [.ref 0, .int x1, .int x2, .int (φ 12 x2.toNatClampNeg), .int (φ 13 x2.toNatClampNeg), .int y1, .retAddr 0]) (st' := [.int y1, .int x1, .ref 0, .ref 0]) (h' := mw φ) rfl ?_
    obtain ⟨y2, hy, hs⟩ := qb1_s hs
    refine qr_c (j := 84) (as := [.ref 0, .int x1, .int y1]) (rest := [.ref 0]) (v := some (.int y2)) (h1 := mw φ) hC rfl rfl qC_84 rfl rfl (mo_holeIn_n F d φ x1 y1 _ (by omega) hy) ?_
    show qm_Rn (d + 1) 145 37 [.ref 0, .int x1, .int x2, .int (φ 12 x2.toNatClampNeg), .int (φ 13 x2.toNatClampNeg), .int y1, .retAddr 0] [.int y2, .ref 0] (mw φ) _
    obtain ⟨φ1, hy, hs⟩ := qb1_s hs
    refine qr_c (j := 142) (as := [.ref 0, .int y2]) (rest := []) (v := none) (h1 := mw φ1) hC rfl rfl qC_142 rfl rfl (mo_writesNumber_n F d φ y2 _ (by omega) hy) ?_
    show qm_Rn (d + 1) 145 40 [.ref 0, .int x1, .int x2, .int (φ 12 x2.toNatClampNeg), .int (φ 13 x2.toNatClampNeg), .int y1, .retAddr 0] [] (mw φ1) _
    have hs := Option.some.inj hs
    subst hs
    exact qr_r hC rfl rfl
/-- SketchFillerModel.shown(II)I -/
def mo_shown_L37 (F : Nat) : Nat → Nat → qm_F → Int32 → Int32 → Int32 → Option (Int32 × qm_F)
  | 0, _, _, _, _, _ => none
  | n + 1, t, φ, x1, x2, x3 =>
    if t = 0 then
      if (φ 14 0) ≤ x3 then
        if ¬ x2 = (-1) then
          some (φ 0 50, φ)
        else
          some (φ 0 49, φ)
      else
        if x3 ≤ 0 then
          mo_shown_L37 F n 1 φ x1 x2 x3
        else
          qb1 (mo_writes F φ 32) fun φ1 =>
          mo_shown_L37 F n 1 φ1 x1 x2 x3
    else
    qb1 (mo_writesToken F φ x1 x3) fun φ1 =>
    mo_shown_L37 F n 0 φ1 x1 x2 (x3 + 1)
def mo_shown (F : Nat) (φ : qm_F) (x1 : Int32) (x2 : Int32) : Option (Int32 × qm_F) :=
  qb1 (mo_isGuess F (qm_u φ 0 0 0) x1) fun y1 =>
  if y1 = 0 then
    some ((-1), (qm_u φ 0 0 0))
  else
    if (-1) ≤ x2 then
      mo_shown_L37 F F 0 (qm_u (qm_u (qm_u (qm_u φ 0 0 0) 0 48 x2) 0 49 0) 0 50 (-1)) x1 x2 0
    else
      some ((-1), (qm_u φ 0 0 0))
set_option maxRecDepth 100000 in
theorem mo_shown_L37_n0 (F d : Nat) (hd : 3 ≤ d) : ∀ (n t : Nat) (φ : qm_F) (x1 : Int32) (x2 : Int32) (x3 : Int32) (r : (Int32 × qm_F)), mo_shown_L37 F n t φ x1 x2 x3 = some r → (t = 0 → qm_Rn d 146 37 [.ref 0, .int x1, .int x2, .int x3] [] (mw φ) (some (.int r.1), mw r.2)) ∧ (t ≠ 0 → qm_Rn d 146 57 [.ref 0, .int x1, .int x2, .int x3] [] (mw φ) (some (.int r.1), mw r.2)) := by
  obtain ⟨d, rfl⟩ : ∃ e, d = e + 1 := ⟨d - 1, by omega⟩
  have hC := qC_146
  intro n
  induction n with
  | zero => intro t φ x1 x2 x3 r hs; simp [mo_shown_L37] at hs
  | succ n ihh =>
    intro t φ x1 x2 x3 r hs
    rw [mo_shown_L37] at hs
    have ih0 : ∀ (φ : qm_F) (x1 : Int32) (x2 : Int32) (x3 : Int32) (r : (Int32 × qm_F)), mo_shown_L37 F n 0 φ x1 x2 x3 = some r → _ := fun φ x1 x2 x3 r q => (ihh 0 φ x1 x2 x3 r q).1 rfl
    have ih1 : ∀ (φ : qm_F) (x1 : Int32) (x2 : Int32) (x3 : Int32) (r : (Int32 × qm_F)), mo_shown_L37 F n 1 φ x1 x2 x3 = some r → _ := fun φ x1 x2 x3 r q => (ihh 1 φ x1 x2 x3 r q).2 (by decide)
    refine ⟨fun ht => ?_, fun ht => ?_⟩
    · subst ht
      rw [if_pos rfl] at hs
      refine qr_s hC (n := 4) (pc' := 43) (ls' := [.ref 0, .int x1, .int x2, .int x3]) (st' := [.int 0, .ref 14, .int x3]) (h' := mw φ) rfl ?_
      refine qr_ia (v := φ 14 0) hC rfl rfl (by decide) rfl ?_
      refine qr_ge2 (tgt := 69) hC rfl (by decide) rfl (fun hc => ?_) (fun hc => ?_)
      · rw [if_pos hc] at hs
        refine qr_s hC (n := 2) (pc' := 71) (ls' := [.ref 0, .int x1, .int x2, .int x3]) (st' := [.int (-1), .int x2]) (h' := mw φ) rfl ?_
        refine qr_ne2 (tgt := 81) hC rfl (by decide) rfl (fun hc => ?_) (fun hc => ?_)
        · rw [if_pos hc] at hs
          refine qr_s hC (n := 2) (pc' := 85) (ls' := [.ref 0, .int x1, .int x2, .int x3]) (st' := [.int (φ 0 50)]) (h' := mw φ) rfl ?_
          have hs := Option.some.inj hs
          subst hs
          exact qr_r hC rfl rfl
        · rw [if_neg hc] at hs
          refine qr_s hC (n := 3) (pc' := 85) (ls' := [.ref 0, .int x1, .int x2, .int x3]) (st' := [.int (φ 0 49)]) (h' := mw φ) rfl ?_
          have hs := Option.some.inj hs
          subst hs
          exact qr_r hC rfl rfl
      · rw [if_neg hc] at hs
        refine qr_s hC (n := 1) (pc' := 48) (ls' := [.ref 0, .int x1, .int x2, .int x3]) (st' := [.int x3]) (h' := mw φ) rfl ?_
        refine qr_le1 (tgt := 57) hC rfl (by decide) rfl (fun hc => ?_) (fun hc => ?_)
        · rw [if_pos hc] at hs
          exact (ih1 φ x1 x2 x3 _ hs)
        · rw [if_neg hc] at hs
          refine qr_s hC (n := 2) (pc' := 54) (ls' := [.ref 0, .int x1, .int x2, .int x3]) (st' := [.int 32, .ref 0]) (h' := mw φ) rfl ?_
          obtain ⟨φ1, hy, hs⟩ := qb1_s hs
          refine qr_c (j := 141) (as := [.ref 0, .int 32]) (rest := []) (v := none) (h1 := mw φ1) hC rfl rfl qC_141 rfl rfl (mo_writes_n F d φ 32 _ (by omega) hy) ?_
          show qm_Rn (d + 1) 146 57 [.ref 0, .int x1, .int x2, .int x3] [] (mw φ1) _
          exact (ih1 φ1 x1 x2 x3 _ hs)
    · have ht0 := ht
      rw [if_neg ht0] at hs
      refine qr_s hC (n := 3) (pc' := 60) (ls' := [.ref 0, .int x1, .int x2, .int x3]) (st' := [.int x3, .int x1, .ref 0]) (h' := mw φ) rfl ?_
      obtain ⟨φ1, hy, hs⟩ := qb1_s hs
      refine qr_c (j := 145) (as := [.ref 0, .int x1, .int x3]) (rest := []) (v := none) (h1 := mw φ1) hC rfl rfl qC_145 rfl rfl (mo_writesToken_n F d φ x1 x3 _ (by omega) hy) ?_
      show qm_Rn (d + 1) 146 63 [.ref 0, .int x1, .int x2, .int x3] [] (mw φ1) _
      refine qr_s hC (n := 2) (pc' := 37) (ls' := [.ref 0, .int x1, .int x2, .int (x3 + 1)]) (st' := []) (h' := mw φ1) rfl ?_
      exact (ih0 φ1 x1 x2 (x3 + 1) _ hs)
theorem mo_shown_L37_n_t0 (F d : Nat) (hd : 3 ≤ d) (n : Nat) (φ : qm_F) (x1 : Int32) (x2 : Int32) (x3 : Int32) (r : (Int32 × qm_F)) (hs : mo_shown_L37 F n 0 φ x1 x2 x3 = some r) : qm_Rn d 146 37 [.ref 0, .int x1, .int x2, .int x3] [] (mw φ) (some (.int r.1), mw r.2) := (mo_shown_L37_n0 F d hd n 0 φ x1 x2 x3 r hs).1 rfl
theorem mo_shown_L37_n_t1 (F d : Nat) (hd : 3 ≤ d) (n : Nat) (φ : qm_F) (x1 : Int32) (x2 : Int32) (x3 : Int32) (r : (Int32 × qm_F)) (hs : mo_shown_L37 F n 1 φ x1 x2 x3 = some r) : qm_Rn d 146 57 [.ref 0, .int x1, .int x2, .int x3] [] (mw φ) (some (.int r.1), mw r.2) := (mo_shown_L37_n0 F d hd n 1 φ x1 x2 x3 r hs).2 (by decide)
set_option maxRecDepth 100000 in
theorem mo_shown_n (F d : Nat) (φ : qm_F) (x1 : Int32) (x2 : Int32) (r : (Int32 × qm_F)) (hd : 3 ≤ d) (hs : mo_shown F φ x1 x2 = some r) : qm_Rn d 146 0 [.ref 0, .int x1, .int x2, .retAddr 0] [] (mw φ) (some (.int r.1), mw r.2) := by
  obtain ⟨d, rfl⟩ : ∃ e, d = e + 1 := ⟨d - 1, by omega⟩
  have hC := qC_146
  unfold mo_shown at hs
  refine qr_s hC (n := 5) (pc' := 7) (ls' := [.ref 0, .int x1, .int x2, .retAddr 0]) (st' := [.int x1, .ref 0]) (h' := mw (qm_u φ 0 0 0)) rfl ?_
  obtain ⟨y1, hy, hs⟩ := qb1_s hs
  refine qr_c (j := 80) (as := [.ref 0, .int x1]) (rest := []) (v := some (.int y1)) (h1 := mw (qm_u φ 0 0 0)) hC rfl rfl qC_80 rfl rfl (mo_isGuess_n F d (qm_u φ 0 0 0) x1 _ (by omega) hy) ?_
  show qm_Rn (d + 1) 146 10 [.ref 0, .int x1, .int x2, .retAddr 0] [.int y1] (mw (qm_u φ 0 0 0)) _
  refine qr_eq1 (tgt := 18) hC rfl (by decide) rfl (fun hc => ?_) (fun hc => ?_)
  · rw [if_pos hc] at hs
    refine qr_s hC (n := 1) (pc' := 19) (ls' := [.ref 0, .int x1, .int x2, .retAddr 0]) (st' := [.int (-1)]) (h' := mw (qm_u φ 0 0 0)) rfl ?_
    have hs := Option.some.inj hs
    subst hs
    exact qr_r hC rfl rfl
  · rw [if_neg hc] at hs
    refine qr_s hC (n := 2) (pc' := 15) (ls' := [.ref 0, .int x1, .int x2, .retAddr 0]) (st' := [.int (-1), .int x2]) (h' := mw (qm_u φ 0 0 0)) rfl ?_
    refine qr_ge2 (tgt := 20) hC rfl (by decide) rfl (fun hc => ?_) (fun hc => ?_)
    · rw [if_pos hc] at hs
      refine qr_s hC (n := 11) (pc' := 37) (ls' := [.ref 0, .int x1, .int x2, .int 0]) (st' := []) (h' := mw (qm_u (qm_u (qm_u (qm_u φ 0 0 0) 0 48 x2) 0 49 0) 0 50 (-1))) rfl ?_
      exact (mo_shown_L37_n_t0 F (d + 1) (by omega) F (qm_u (qm_u (qm_u (qm_u φ 0 0 0) 0 48 x2) 0 49 0) 0 50 (-1)) x1 x2 0 _ hs)
    · rw [if_neg hc] at hs
      refine qr_s hC (n := 1) (pc' := 19) (ls' := [.ref 0, .int x1, .int x2, .retAddr 0]) (st' := [.int (-1)]) (h' := mw (qm_u φ 0 0 0)) rfl ?_
      have hs := Option.some.inj hs
      subst hs
      exact qr_r hC rfl rfl
