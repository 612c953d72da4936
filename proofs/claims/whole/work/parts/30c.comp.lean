/-- SketchFiller$Search.tellUnroll(I)I -/
def se_tellUnroll (F : Nat) (nR nN nT gg : Nat) (φ : qm_F) (x1 : Int32) : Option (Int32 × qm_F) :=
  qb1 (ve_unroll F nR nN nT gg φ) fun y1 =>
  if x1 = y1 then
    some (y1, φ)
  else
    qb1 (ve_tellUnroll F nR nN nT gg φ x1) fun φ1 =>
    qb1 (se_beginAnew F nR nN nT gg φ1) fun φ2 =>
    some (y1, φ2)
set_option maxRecDepth 100000 in
theorem se_tellUnroll_n (F d : Nat) (nR nN nT gg : Nat) (X : List (Nat × Nat)) (ρ : Nat → Nat → Option Nat) (φ : qm_F) (x1 : Int32) (r : (Int32 × qm_F)) (hd : 3 ≤ d) (hs : se_tellUnroll F nR nN nT gg φ x1 = some r) : qm_Rn d 233 0 [.ref 30, .int x1, .retAddr 0] [] (cs nR nN nT gg X ρ φ) (some (.int r.1), cs nR nN nT gg X ρ r.2) := by
  obtain ⟨d, rfl⟩ : ∃ e, d = e + 1 := ⟨d - 1, by omega⟩
  have hC := qC_233
  unfold se_tellUnroll at hs
  refine qr_s hC (n := 2) (pc' := 4) (ls' := [.ref 30, .int x1, .retAddr 0]) (st' := [.ref 25]) (h' := cs nR nN nT gg X ρ φ) rfl ?_
  obtain ⟨y1, hy, hs⟩ := qb1_s hs
  refine qr_c (j := 273) (as := [.ref 25]) (rest := []) (v := some (.int y1)) (h1 := cs nR nN nT gg X ρ φ) hC rfl rfl qC_273 rfl rfl (ve_unroll_n F d nR nN nT gg X ρ φ _ (by omega) hy) ?_
  show qm_Rn (d + 1) 233 7 [.ref 30, .int x1, .retAddr 0] [.int y1] (cs nR nN nT gg X ρ φ) _
  refine qr_s hC (n := 3) (pc' := 10) (ls' := [.ref 30, .int x1, .int y1]) (st' := [.int y1, .int x1]) (h' := cs nR nN nT gg X ρ φ) rfl ?_
  refine qr_eq2 (tgt := 25) hC rfl (by decide) rfl (fun hc => ?_) (fun hc => ?_)
  · rw [if_pos hc] at hs
    refine qr_s hC (n := 1) (pc' := 26) (ls' := [.ref 30, .int x1, .int y1]) (st' := [.int y1]) (h' := cs nR nN nT gg X ρ φ) rfl ?_
    have hs := Option.some.inj hs
    subst hs
    exact qr_r hC rfl rfl
  · rw [if_neg hc] at hs
    refine qr_s hC (n := 3) (pc' := 18) (ls' := [.ref 30, .int x1, .int y1]) (st' := [.int x1, .ref 25]) (h' := cs nR nN nT gg X ρ φ) rfl ?_
    obtain ⟨φ1, hy, hs⟩ := qb1_s hs
    refine qr_c (j := 274) (as := [.ref 25, .int x1]) (rest := []) (v := none) (h1 := cs nR nN nT gg X ρ φ1) hC rfl rfl qC_274 rfl rfl (ve_tellUnroll_n F d nR nN nT gg X ρ φ x1 _ (by omega) hy) ?_
    show qm_Rn (d + 1) 233 21 [.ref 30, .int x1, .int y1] [] (cs nR nN nT gg X ρ φ1) _
    refine qr_s hC (n := 1) (pc' := 22) (ls' := [.ref 30, .int x1, .int y1]) (st' := [.ref 30]) (h' := cs nR nN nT gg X ρ φ1) rfl ?_
    obtain ⟨φ2, hy, hs⟩ := qb1_s hs
    refine qr_c (j := 223) (as := [.ref 30]) (rest := []) (v := none) (h1 := cs nR nN nT gg X ρ φ2) hC rfl rfl qC_223 rfl rfl (se_beginAnew_n F d nR nN nT gg X ρ φ1 _ (by omega) hy) ?_
    show qm_Rn (d + 1) 233 25 [.ref 30, .int x1, .int y1] [] (cs nR nN nT gg X ρ φ2) _
    refine qr_s hC (n := 1) (pc' := 26) (ls' := [.ref 30, .int x1, .int y1]) (st' := [.int y1]) (h' := cs nR nN nT gg X ρ φ2) rfl ?_
    have hs := Option.some.inj hs
    subst hs
    exact qr_r hC rfl rfl
/-- SketchFiller$Search.tellOrder(I)I -/
def se_tellOrder (F : Nat) (nR nN nT gg : Nat) (φ : qm_F) (x1 : Int32) : Option (Int32 × qm_F) :=
  some (φ 30 6, (qm_u φ 30 6 x1))
set_option maxRecDepth 100000 in
theorem se_tellOrder_n (F d : Nat) (nR nN nT gg : Nat) (X : List (Nat × Nat)) (ρ : Nat → Nat → Option Nat) (φ : qm_F) (x1 : Int32) (r : (Int32 × qm_F)) (hd : 0 ≤ d) (hs : se_tellOrder F nR nN nT gg φ x1 = some r) : qm_Rn d 234 0 [.ref 30, .int x1, .retAddr 0] [] (cs nR nN nT gg X ρ φ) (some (.int r.1), cs nR nN nT gg X ρ r.2) := by
  have hC := qC_234
  unfold se_tellOrder at hs
  refine qr_s hC (n := 7) (pc' := 11) (ls' := [.ref 30, .int x1, .int (φ 30 6)]) (st' := [.int (φ 30 6)]) (h' := cs nR nN nT gg X ρ (qm_u φ 30 6 x1)) rfl ?_
  have hs := Option.some.inj hs
  subst hs
  exact qr_r hC rfl rfl
/-- SketchFiller.set(II)I -/
def sf_set_L32 (F : Nat) (nR nN nT gg : Nat) (φ : qm_F) (x1 : Int32) (x2 : Int32) : Option (Int32 × qm_F) :=
  if ¬ x1 = 1 then
    some ((-1), φ)
  else
    if 2 < x2 then
      some ((-1), φ)
    else
      qb2 (se_tellOrder F nR nN nT gg φ x2) fun y1 φ1 =>
      some (y1, φ1)
def sf_set (F : Nat) (nR nN nT gg : Nat) (φ : qm_F) (x1 : Int32) (x2 : Int32) : Option (Int32 × qm_F) :=
  if 0 ≤ x2 then
    if ¬ x1 = 0 then
      sf_set_L32 F nR nN nT gg φ x1 x2
    else
      if 9 < x2 then
        sf_set_L32 F nR nN nT gg φ x1 x2
      else
        qb2 (se_tellUnroll F nR nN nT gg φ x2) fun y1 φ1 =>
        some (y1, φ1)
  else
    some ((-1), φ)
set_option maxRecDepth 100000 in
theorem sf_set_L32_n (F d : Nat) (nR nN nT gg : Nat) (X : List (Nat × Nat)) (ρ : Nat → Nat → Option Nat) (hd : 4 ≤ d) (φ : qm_F) (x1 : Int32) (x2 : Int32) (r : (Int32 × qm_F)) (hs : sf_set_L32 F nR nN nT gg φ x1 x2 = some r) : qm_Rn d 17 32 [.ref 0, .int x1, .int x2] [] (cs nR nN nT gg X ρ φ) (some (.int r.1), cs nR nN nT gg X ρ r.2) := by
  obtain ⟨d, rfl⟩ : ∃ e, d = e + 1 := ⟨d - 1, by omega⟩
  have hC := qC_17
  unfold sf_set_L32 at hs
  refine qr_s hC (n := 2) (pc' := 34) (ls' := [.ref 0, .int x1, .int x2]) (st' := [.int 1, .int x1]) (h' := cs nR nN nT gg X ρ φ) rfl ?_
  refine qr_ne2 (tgt := 51) hC rfl (by decide) rfl (fun hc => ?_) (fun hc => ?_)
  · rw [if_pos hc] at hs
    refine qr_s hC (n := 1) (pc' := 52) (ls' := [.ref 0, .int x1, .int x2]) (st' := [.int (-1)]) (h' := cs nR nN nT gg X ρ φ) rfl ?_
    have hs := Option.some.inj hs
    subst hs
    exact qr_r hC rfl rfl
  · rw [if_neg hc] at hs
    refine qr_s hC (n := 2) (pc' := 39) (ls' := [.ref 0, .int x1, .int x2]) (st' := [.int 2, .int x2]) (h' := cs nR nN nT gg X ρ φ) rfl ?_
    refine qr_gt2 (tgt := 51) hC rfl (by decide) rfl (fun hc => ?_) (fun hc => ?_)
    · rw [if_pos hc] at hs
      refine qr_s hC (n := 1) (pc' := 52) (ls' := [.ref 0, .int x1, .int x2]) (st' := [.int (-1)]) (h' := cs nR nN nT gg X ρ φ) rfl ?_
      have hs := Option.some.inj hs
      subst hs
      exact qr_r hC rfl rfl
    · rw [if_neg hc] at hs
      refine qr_s hC (n := 3) (pc' := 47) (ls' := [.ref 0, .int x1, .int x2]) (st' := [.int x2, .ref 30]) (h' := cs nR nN nT gg X ρ φ) rfl ?_
      obtain ⟨y1, φ1, hy, hs⟩ := qb2_s hs
      refine qr_c (j := 234) (as := [.ref 30, .int x2]) (rest := []) (v := some (.int y1)) (h1 := cs nR nN nT gg X ρ φ1) hC rfl rfl qC_234 rfl rfl (se_tellOrder_n F d nR nN nT gg X ρ φ x2 _ (by omega) hy) ?_
      show qm_Rn (d + 1) 17 50 [.ref 0, .int x1, .int x2] [.int y1] (cs nR nN nT gg X ρ φ1) _
      have hs := Option.some.inj hs
      subst hs
      exact qr_r hC rfl rfl
set_option maxRecDepth 100000 in
theorem sf_set_n (F d : Nat) (nR nN nT gg : Nat) (X : List (Nat × Nat)) (ρ : Nat → Nat → Option Nat) (φ : qm_F) (x1 : Int32) (x2 : Int32) (r : (Int32 × qm_F)) (hd : 4 ≤ d) (hs : sf_set F nR nN nT gg φ x1 x2 = some r) : qm_Rn d 17 0 [.ref 0, .int x1, .int x2] [] (cs nR nN nT gg X ρ φ) (some (.int r.1), cs nR nN nT gg X ρ r.2) := by
  obtain ⟨d, rfl⟩ : ∃ e, d = e + 1 := ⟨d - 1, by omega⟩
  have hC := qC_17
  unfold sf_set at hs
  refine qr_s hC (n := 4) (pc' := 8) (ls' := [.ref 0, .int x1, .int x2]) (st' := [.int x2]) (h' := cs nR nN nT gg X ρ φ) rfl ?_
  refine qr_ge1 (tgt := 13) hC rfl (by decide) rfl (fun hc => ?_) (fun hc => ?_)
  · rw [if_pos hc] at hs
    refine qr_s hC (n := 1) (pc' := 14) (ls' := [.ref 0, .int x1, .int x2]) (st' := [.int x1]) (h' := cs nR nN nT gg X ρ φ) rfl ?_
    refine qr_ne1 (tgt := 32) hC rfl (by decide) rfl (fun hc => ?_) (fun hc => ?_)
    · rw [if_pos hc] at hs
      exact sf_set_L32_n F (d + 1) nR nN nT gg X ρ (by omega) φ x1 x2 _ hs
    · rw [if_neg hc] at hs
      refine qr_s hC (n := 2) (pc' := 20) (ls' := [.ref 0, .int x1, .int x2]) (st' := [.int 9, .int x2]) (h' := cs nR nN nT gg X ρ φ) rfl ?_
      refine qr_gt2 (tgt := 32) hC rfl (by decide) rfl (fun hc => ?_) (fun hc => ?_)
      · rw [if_pos hc] at hs
        exact sf_set_L32_n F (d + 1) nR nN nT gg X ρ (by omega) φ x1 x2 _ hs
      · rw [if_neg hc] at hs
        refine qr_s hC (n := 3) (pc' := 28) (ls' := [.ref 0, .int x1, .int x2]) (st' := [.int x2, .ref 30]) (h' := cs nR nN nT gg X ρ φ) rfl ?_
        obtain ⟨y1, φ1, hy, hs⟩ := qb2_s hs
        refine qr_c (j := 233) (as := [.ref 30, .int x2]) (rest := []) (v := some (.int y1)) (h1 := cs nR nN nT gg X ρ φ1) hC rfl rfl qC_233 rfl rfl (se_tellUnroll_n F d nR nN nT gg X ρ φ x2 _ (by omega) hy) ?_
        show qm_Rn (d + 1) 17 31 [.ref 0, .int x1, .int x2] [.int y1] (cs nR nN nT gg X ρ φ1) _
        have hs := Option.some.inj hs
        subst hs
        exact qr_r hC rfl rfl
  · rw [if_neg hc] at hs
    refine qr_s hC (n := 1) (pc' := 12) (ls' := [.ref 0, .int x1, .int x2]) (st' := [.int (-1)]) (h' := cs nR nN nT gg X ρ φ) rfl ?_
    have hs := Option.some.inj hs
    subst hs
    exact qr_r hC rfl rfl
/-- SketchFiller.state(I)I -/
def sf_state (F : Nat) (nR nN nT gg : Nat) (φ : qm_F) (x1 : Int32) : Option Int32 :=
  if ¬ x1 = 5 then
    if x1 < 10 then
      if x1 = 0 then
        some (φ 30 7)
      else
      if x1 = 1 then
        some (φ 30 8)
      else
      if x1 = 2 then
        some (φ 30 5)
      else
      if x1 = 3 then
        qb1 (ve_unroll F nR nN nT gg φ) fun y1 =>
        some y1
      else
      if x1 = 4 then
        some (φ 30 6)
      else
      some (-1)
    else
      qb1 (se_keptAt F nR nN nT gg φ (x1 - 10)) fun y2 =>
      some y2
  else
    qb1 (ta_size F nR φ) fun y3 =>
    some y3
set_option maxRecDepth 100000 in
theorem sf_state_n (F d : Nat) (nR nN nT gg : Nat) (X : List (Nat × Nat)) (ρ : Nat → Nat → Option Nat) (φ : qm_F) (x1 : Int32) (r : Int32) (hd : 2 ≤ d) (hs : sf_state F nR nN nT gg φ x1 = some r) : qm_Rn d 18 0 [.ref 0, .int x1] [] (cs nR nN nT gg X ρ φ) (some (.int r), cs nR nN nT gg X ρ φ) := by
  obtain ⟨d, rfl⟩ : ∃ e, d = e + 1 := ⟨d - 1, by omega⟩
  have hC := qC_18
  unfold sf_state at hs
  refine qr_s hC (n := 2) (pc' := 2) (ls' := [.ref 0, .int x1]) (st' := [.int 5, .int x1]) (h' := cs nR nN nT gg X ρ φ) rfl ?_
  refine qr_ne2 (tgt := 13) hC rfl (by decide) rfl (fun hc => ?_) (fun hc => ?_)
  · rw [if_pos hc] at hs
    refine qr_s hC (n := 5) (pc' := 25) (ls' := [.ref 0, .int x1]) (st' := [.int 10, .int x1]) (h' := cs nR nN nT gg X ρ φ) rfl ?_
    refine qr_lt2 (tgt := 40) hC rfl (by decide) rfl (fun hc => ?_) (fun hc => ?_)
    · rw [if_pos hc] at hs
      refine qr_s hC (n := 1) (pc' := 41) (ls' := [.ref 0, .int x1]) (st' := [.int x1]) (h' := cs nR nN nT gg X ρ φ) rfl ?_
      by_cases q0 : x1 = 0
      · rw [if_pos q0] at hs
        refine qr_sw hC (tgt := 76) rfl q0 rfl ?_
        refine qr_s hC (n := 3) (pc' := 83) (ls' := [.ref 0, .int x1]) (st' := [.int (φ 30 7)]) (h' := cs nR nN nT gg X ρ φ) rfl ?_
        have hs := Option.some.inj hs
        subst hs
        exact qr_r hC rfl rfl
      · rw [if_neg q0] at hs
        by_cases q1 : x1 = 1
        · rw [if_pos q1] at hs
          refine qr_sw hC (tgt := 84) rfl q1 rfl ?_
          refine qr_s hC (n := 3) (pc' := 91) (ls' := [.ref 0, .int x1]) (st' := [.int (φ 30 8)]) (h' := cs nR nN nT gg X ρ φ) rfl ?_
          have hs := Option.some.inj hs
          subst hs
          exact qr_r hC rfl rfl
        · rw [if_neg q1] at hs
          by_cases q2 : x1 = 2
          · rw [if_pos q2] at hs
            refine qr_sw hC (tgt := 92) rfl q2 rfl ?_
            refine qr_s hC (n := 3) (pc' := 99) (ls' := [.ref 0, .int x1]) (st' := [.int (φ 30 5)]) (h' := cs nR nN nT gg X ρ φ) rfl ?_
            have hs := Option.some.inj hs
            subst hs
            exact qr_r hC rfl rfl
          · rw [if_neg q2] at hs
            by_cases q3 : x1 = 3
            · rw [if_pos q3] at hs
              refine qr_sw hC (tgt := 100) rfl q3 rfl ?_
              refine qr_s hC (n := 3) (pc' := 107) (ls' := [.ref 0, .int x1]) (st' := [.ref 25]) (h' := cs nR nN nT gg X ρ φ) rfl ?_
              obtain ⟨y1, hy, hs⟩ := qb1_s hs
              refine qr_c (j := 273) (as := [.ref 25]) (rest := []) (v := some (.int y1)) (h1 := cs nR nN nT gg X ρ φ) hC rfl rfl qC_273 rfl rfl (ve_unroll_n F d nR nN nT gg X ρ φ _ (by omega) hy) ?_
              show qm_Rn (d + 1) 18 110 [.ref 0, .int x1] [.int y1] (cs nR nN nT gg X ρ φ) _
              have hs := Option.some.inj hs
              subst hs
              exact qr_r hC rfl rfl
            · rw [if_neg q3] at hs
              by_cases q4 : x1 = 4
              · rw [if_pos q4] at hs
                refine qr_sw hC (tgt := 111) rfl q4 rfl ?_
                refine qr_s hC (n := 3) (pc' := 118) (ls' := [.ref 0, .int x1]) (st' := [.int (φ 30 6)]) (h' := cs nR nN nT gg X ρ φ) rfl ?_
                have hs := Option.some.inj hs
                subst hs
                exact qr_r hC rfl rfl
              · rw [if_neg q4] at hs
                have z0 : Int32.toInt x1 ≠ 0 := fun z => q0 (Int32.toInt_inj.mp (z.trans (by decide)))
                have z1 : Int32.toInt x1 ≠ 1 := fun z => q1 (Int32.toInt_inj.mp (z.trans (by decide)))
                have z2 : Int32.toInt x1 ≠ 2 := fun z => q2 (Int32.toInt_inj.mp (z.trans (by decide)))
                have z3 : Int32.toInt x1 ≠ 3 := fun z => q3 (Int32.toInt_inj.mp (z.trans (by decide)))
                have z4 : Int32.toInt x1 ≠ 4 := fun z => q4 (Int32.toInt_inj.mp (z.trans (by decide)))
                refine qr_tD (tgt := 119) hC rfl (by omega) (by decide) rfl ?_
                refine qr_s hC (n := 1) (pc' := 120) (ls' := [.ref 0, .int x1]) (st' := [.int (-1)]) (h' := cs nR nN nT gg X ρ φ) rfl ?_
                have hs := Option.some.inj hs
                subst hs
                exact qr_r hC rfl rfl
    · rw [if_neg hc] at hs
      refine qr_s hC (n := 5) (pc' := 36) (ls' := [.ref 0, .int x1]) (st' := [.int (x1 - 10), .ref 30]) (h' := cs nR nN nT gg X ρ φ) rfl ?_
      obtain ⟨y2, hy, hs⟩ := qb1_s hs
      refine qr_c (j := 229) (as := [.ref 30, .int (x1 - 10)]) (rest := []) (v := some (.int y2)) (h1 := cs nR nN nT gg X ρ φ) hC rfl rfl qC_229 rfl rfl (se_keptAt_n F d nR nN nT gg X ρ φ (x1 - 10) _ (by omega) hy) ?_
      show qm_Rn (d + 1) 18 39 [.ref 0, .int x1] [.int y2] (cs nR nN nT gg X ρ φ) _
      have hs := Option.some.inj hs
      subst hs
      exact qr_r hC rfl rfl
  · rw [if_neg hc] at hs
    refine qr_s hC (n := 2) (pc' := 9) (ls' := [.ref 0, .int x1]) (st' := [.ref 1]) (h' := cs nR nN nT gg X ρ φ) rfl ?_
    obtain ⟨y3, hy, hs⟩ := qb1_s hs
    refine qr_c (j := 251) (as := [.ref 1]) (rest := []) (v := some (.int y3)) (h1 := cs nR nN nT gg X ρ φ) hC rfl rfl qC_251 rfl rfl (ta_size_n F d nR (ct_X nN (cw_X nT (cr_X gg (cs_X gg X)))) (ct_R (cw_R (cr_R (cs_R ρ)))) φ _ (by omega) hy) ?_
    show qm_Rn (d + 1) 18 12 [.ref 0, .int x1] [.int y3] (cs nR nN nT gg X ρ φ) _
    have hs := Option.some.inj hs
    subst hs
    exact qr_r hC rfl rfl
/-- SketchFiller$Search.isOf(II)Z -/
def se_isOf (F : Nat) (nR nN nT gg : Nat) (φ : qm_F) (x1 : Int32) (x2 : Int32) : Option (Int32 × qm_F) :=
  if x1 = 0 then
    qb2 (se_isLeft F nR nN nT gg φ x2 (-1)) fun y1 φ1 =>
    qg (qm_bz y1) (some (y1, φ1))
  else
  if x1 = 1 then
    qb1 (se_isOut F nR nN nT gg φ x2) fun y2 =>
    if ¬ y2 = 0 then
      some (0, φ)
    else
      qb2 (ve_leastRefuter F nR nN nT gg φ x2) fun y3 φ2 =>
      if ¬ y3 = (-1) then
        some (0, φ2)
      else
        some (1, φ2)
  else
  if x1 = 2 then
    qb1 (se_isOut F nR nN nT gg φ x2) fun y4 =>
    if ¬ y4 = 0 then
      some (0, φ)
    else
      some (1, φ)
  else
  some (0, φ)
set_option maxRecDepth 100000 in
theorem se_isOf_n (F d : Nat) (nR nN nT gg : Nat) (X : List (Nat × Nat)) (ρ : Nat → Nat → Option Nat) (φ : qm_F) (x1 : Int32) (x2 : Int32) (r : (Int32 × qm_F)) (hd : 5 ≤ d) (hs : se_isOf F nR nN nT gg φ x1 x2 = some r) : qm_Rn d 239 0 [.ref 30, .int x1, .int x2] [] (cs nR nN nT gg X ρ φ) (some (.int r.1), cs nR nN nT gg X ρ r.2) := by
  obtain ⟨d, rfl⟩ : ∃ e, d = e + 1 := ⟨d - 1, by omega⟩
  have hC := qC_239
  unfold se_isOf at hs
  refine qr_s hC (n := 1) (pc' := 1) (ls' := [.ref 30, .int x1, .int x2]) (st' := [.int x1]) (h' := cs nR nN nT gg X ρ φ) rfl ?_
  by_cases q0 : x1 = 0
  · rw [if_pos q0] at hs
    refine qr_sw hC (tgt := 28) rfl q0 rfl ?_
    refine qr_s hC (n := 3) (pc' := 33) (ls' := [.ref 30, .int x1, .int x2]) (st' := [.long (-1), .int x2, .ref 30]) (h' := cs nR nN nT gg X ρ φ) rfl ?_
    obtain ⟨y1, φ1, hy, hs⟩ := qb2_s hs
    refine qr_c (j := 238) (as := [.ref 30, .int x2, .long (-1)]) (rest := []) (v := some (.int y1)) (h1 := cs nR nN nT gg X ρ φ1) hC rfl rfl qC_238 rfl rfl (se_isLeft_n F d nR nN nT gg X ρ φ x2 (-1) _ (by omega) hy) ?_
    show qm_Rn (d + 1) 239 36 [.ref 30, .int x1, .int x2] [.int y1] (cs nR nN nT gg X ρ φ1) _
    obtain ⟨hz, hs⟩ := qg_s hs
    have hs := Option.some.inj hs
    subst hs
    exact qr_rz hC rfl hz
  · rw [if_neg q0] at hs
    by_cases q1 : x1 = 1
    · rw [if_pos q1] at hs
      refine qr_sw hC (tgt := 37) rfl q1 rfl ?_
      refine qr_s hC (n := 2) (pc' := 39) (ls' := [.ref 30, .int x1, .int x2]) (st' := [.int x2, .ref 30]) (h' := cs nR nN nT gg X ρ φ) rfl ?_
      obtain ⟨y2, hy, hs⟩ := qb1_s hs
      refine qr_c (j := 237) (as := [.ref 30, .int x2]) (rest := []) (v := some (.int y2)) (h1 := cs nR nN nT gg X ρ φ) hC rfl rfl qC_237 rfl rfl (se_isOut_n F d nR nN nT gg X ρ φ x2 _ (by omega) hy) ?_
      show qm_Rn (d + 1) 239 42 [.ref 30, .int x1, .int x2] [.int y2] (cs nR nN nT gg X ρ φ) _
      refine qr_ne1 (tgt := 61) hC rfl (by decide) rfl (fun hc => ?_) (fun hc => ?_)
      · rw [if_pos hc] at hs
        refine qr_s hC (n := 1) (pc' := 62) (ls' := [.ref 30, .int x1, .int x2]) (st' := [.int 0]) (h' := cs nR nN nT gg X ρ φ) rfl ?_
        have hs := Option.some.inj hs
        subst hs
        exact qr_r hC rfl rfl
      · rw [if_neg hc] at hs
        refine qr_s hC (n := 3) (pc' := 50) (ls' := [.ref 30, .int x1, .int x2]) (st' := [.int x2, .ref 25]) (h' := cs nR nN nT gg X ρ φ) rfl ?_
        obtain ⟨y3, φ2, hy, hs⟩ := qb2_s hs
        refine qr_c (j := 277) (as := [.ref 25, .int x2]) (rest := []) (v := some (.int y3)) (h1 := cs nR nN nT gg X ρ φ2) hC rfl rfl qC_277 rfl rfl (ve_leastRefuter_n F d nR nN nT gg X ρ φ x2 _ (by omega) hy) ?_
        show qm_Rn (d + 1) 239 53 [.ref 30, .int x1, .int x2] [.int y3] (cs nR nN nT gg X ρ φ2) _
        refine qr_s hC (n := 1) (pc' := 54) (ls' := [.ref 30, .int x1, .int x2]) (st' := [.int (-1), .int y3]) (h' := cs nR nN nT gg X ρ φ2) rfl ?_
        refine qr_ne2 (tgt := 61) hC rfl (by decide) rfl (fun hc => ?_) (fun hc => ?_)
        · rw [if_pos hc] at hs
          refine qr_s hC (n := 1) (pc' := 62) (ls' := [.ref 30, .int x1, .int x2]) (st' := [.int 0]) (h' := cs nR nN nT gg X ρ φ2) rfl ?_
          have hs := Option.some.inj hs
          subst hs
          exact qr_r hC rfl rfl
        · rw [if_neg hc] at hs
          refine qr_s hC (n := 2) (pc' := 62) (ls' := [.ref 30, .int x1, .int x2]) (st' := [.int 1]) (h' := cs nR nN nT gg X ρ φ2) rfl ?_
          have hs := Option.some.inj hs
          subst hs
          exact qr_r hC rfl rfl
    · rw [if_neg q1] at hs
      by_cases q2 : x1 = 2
      · rw [if_pos q2] at hs
        refine qr_sw hC (tgt := 63) rfl q2 rfl ?_
        refine qr_s hC (n := 2) (pc' := 65) (ls' := [.ref 30, .int x1, .int x2]) (st' := [.int x2, .ref 30]) (h' := cs nR nN nT gg X ρ φ) rfl ?_
        obtain ⟨y4, hy, hs⟩ := qb1_s hs
        refine qr_c (j := 237) (as := [.ref 30, .int x2]) (rest := []) (v := some (.int y4)) (h1 := cs nR nN nT gg X ρ φ) hC rfl rfl qC_237 rfl rfl (se_isOut_n F d nR nN nT gg X ρ φ x2 _ (by omega) hy) ?_
        show qm_Rn (d + 1) 239 68 [.ref 30, .int x1, .int x2] [.int y4] (cs nR nN nT gg X ρ φ) _
        refine qr_ne1 (tgt := 75) hC rfl (by decide) rfl (fun hc => ?_) (fun hc => ?_)
        · rw [if_pos hc] at hs
          refine qr_s hC (n := 1) (pc' := 76) (ls' := [.ref 30, .int x1, .int x2]) (st' := [.int 0]) (h' := cs nR nN nT gg X ρ φ) rfl ?_
          have hs := Option.some.inj hs
          subst hs
          exact qr_r hC rfl rfl
        · rw [if_neg hc] at hs
          refine qr_s hC (n := 2) (pc' := 76) (ls' := [.ref 30, .int x1, .int x2]) (st' := [.int 1]) (h' := cs nR nN nT gg X ρ φ) rfl ?_
          have hs := Option.some.inj hs
          subst hs
          exact qr_r hC rfl rfl
      · rw [if_neg q2] at hs
        have z0 : Int32.toInt x1 ≠ 0 := fun z => q0 (Int32.toInt_inj.mp (z.trans (by decide)))
        have z1 : Int32.toInt x1 ≠ 1 := fun z => q1 (Int32.toInt_inj.mp (z.trans (by decide)))
        have z2 : Int32.toInt x1 ≠ 2 := fun z => q2 (Int32.toInt_inj.mp (z.trans (by decide)))
        refine qr_tD (tgt := 77) hC rfl (by omega) (by decide) rfl ?_
        refine qr_s hC (n := 1) (pc' := 78) (ls' := [.ref 30, .int x1, .int x2]) (st' := [.int 0]) (h' := cs nR nN nT gg X ρ φ) rfl ?_
        have hs := Option.some.inj hs
        subst hs
        exact qr_r hC rfl rfl
/-- SketchFiller$Search.countOf(I)I -/
def se_countOf_L4 (F : Nat) (nR nN nT gg : Nat) : Nat → qm_F → Int32 → Int32 → Int32 → Option (Int32 × qm_F)
  | 0, _, _, _, _ => none
  | n + 1, φ, x1, x2, x3 =>
    qb1 (pr_guesses F nR nN nT φ) fun y1 =>
    if y1 ≤ x3 then
      some (x2, φ)
    else
      qb2 (se_isOf F nR nN nT gg φ x1 x3) fun y2 φ1 =>
      if y2 = 0 then
        se_countOf_L4 F nR nN nT gg n φ1 x1 x2 (x3 + 1)
      else
        se_countOf_L4 F nR nN nT gg n φ1 x1 (x2 + 1) (x3 + 1)
def se_countOf (F : Nat) (nR nN nT gg : Nat) (φ : qm_F) (x1 : Int32) : Option (Int32 × qm_F) :=
  se_countOf_L4 F nR nN nT gg F φ x1 0 0
set_option maxRecDepth 100000 in
theorem se_countOf_L4_n (F d : Nat) (nR nN nT gg : Nat) (X : List (Nat × Nat)) (ρ : Nat → Nat → Option Nat) (hd : 6 ≤ d) : ∀ (n : Nat) (φ : qm_F) (x1 : Int32) (x2 : Int32) (x3 : Int32) (r : (Int32 × qm_F)), se_countOf_L4 F nR nN nT gg n φ x1 x2 x3 = some r → qm_Rn d 240 4 [.ref 30, .int x1, .int x2, .int x3] [] (cs nR nN nT gg X ρ φ) (some (.int r.1), cs nR nN nT gg X ρ r.2) := by
  obtain ⟨d, rfl⟩ : ∃ e, d = e + 1 := ⟨d - 1, by omega⟩
  have hC := qC_240
  intro n
  induction n with
  | zero => intro φ x1 x2 x3 r hs; simp [se_countOf_L4] at hs
  | succ n ih =>
    intro φ x1 x2 x3 r hs
    rw [se_countOf_L4] at hs
    refine qr_s hC (n := 3) (pc' := 9) (ls' := [.ref 30, .int x1, .int x2, .int x3]) (st' := [.ref 14, .int x3]) (h' := cs nR nN nT gg X ρ φ) rfl ?_
    obtain ⟨y1, hy, hs⟩ := qb1_s hs
    refine qr_c (j := 201) (as := [.ref 14]) (rest := [.int x3]) (v := some (.int y1)) (h1 := cs nR nN nT gg X ρ φ) hC rfl rfl qC_201 rfl rfl (pr_guesses_n F d nR nN nT (cr_X gg (cs_X gg X)) (cr_R (cs_R ρ)) φ _ (by omega) hy) ?_
    show qm_Rn (d + 1) 240 12 [.ref 30, .int x1, .int x2, .int x3] [.int y1, .int x3] (cs nR nN nT gg X ρ φ) _
    refine qr_ge2 (tgt := 33) hC rfl (by decide) rfl (fun hc => ?_) (fun hc => ?_)
    · rw [if_pos hc] at hs
      refine qr_s hC (n := 1) (pc' := 34) (ls' := [.ref 30, .int x1, .int x2, .int x3]) (st' := [.int x2]) (h' := cs nR nN nT gg X ρ φ) rfl ?_
      have hs := Option.some.inj hs
      subst hs
      exact qr_r hC rfl rfl
    · rw [if_neg hc] at hs
      refine qr_s hC (n := 3) (pc' := 18) (ls' := [.ref 30, .int x1, .int x2, .int x3]) (st' := [.int x3, .int x1, .ref 30]) (h' := cs nR nN nT gg X ρ φ) rfl ?_
      obtain ⟨y2, φ1, hy, hs⟩ := qb2_s hs
      refine qr_c (j := 239) (as := [.ref 30, .int x1, .int x3]) (rest := []) (v := some (.int y2)) (h1 := cs nR nN nT gg X ρ φ1) hC rfl rfl qC_239 rfl rfl (se_isOf_n F d nR nN nT gg X ρ φ x1 x3 _ (by omega) hy) ?_
      show qm_Rn (d + 1) 240 21 [.ref 30, .int x1, .int x2, .int x3] [.int y2] (cs nR nN nT gg X ρ φ1) _
      refine qr_eq1 (tgt := 27) hC rfl (by decide) rfl (fun hc => ?_) (fun hc => ?_)
      · rw [if_pos hc] at hs
        refine qr_s hC (n := 2) (pc' := 4) (ls' := [.ref 30, .int x1, .int x2, .int (x3 + 1)]) (st' := []) (h' := cs nR nN nT gg X ρ φ1) rfl ?_
        exact ih φ1 x1 x2 (x3 + 1) _ hs
      · rw [if_neg hc] at hs
        refine qr_s hC (n := 3) (pc' := 4) (ls' := [.ref 30, .int x1, .int (x2 + 1), .int (x3 + 1)]) (st' := []) (h' := cs nR nN nT gg X ρ φ1) rfl ?_
        exact ih φ1 x1 (x2 + 1) (x3 + 1) _ hs
set_option maxRecDepth 100000 in
theorem se_countOf_n (F d : Nat) (nR nN nT gg : Nat) (X : List (Nat × Nat)) (ρ : Nat → Nat → Option Nat) (φ : qm_F) (x1 : Int32) (r : (Int32 × qm_F)) (hd : 6 ≤ d) (hs : se_countOf F nR nN nT gg φ x1 = some r) : qm_Rn d 240 0 [.ref 30, .int x1, .retAddr 0, .retAddr 0] [] (cs nR nN nT gg X ρ φ) (some (.int r.1), cs nR nN nT gg X ρ r.2) := by
  obtain ⟨d, rfl⟩ : ∃ e, d = e + 1 := ⟨d - 1, by omega⟩
  have hC := qC_240
  unfold se_countOf at hs
  refine qr_s hC (n := 4) (pc' := 4) (ls' := [.ref 30, .int x1, .int 0, .int 0]) (st' := []) (h' := cs nR nN nT gg X ρ φ) rfl ?_
  exact se_countOf_L4_n F (d + 1) nR nN nT gg X ρ (by omega) F φ x1 0 0 _ hs
/-- SketchFiller$Search.firstOf(I)I -/
def se_firstOf_L2 (F : Nat) (nR nN nT gg : Nat) : Nat → qm_F → Int32 → Int32 → Option (Int32 × qm_F)
  | 0, _, _, _ => none
  | n + 1, φ, x1, x2 =>
    qb1 (pr_guesses F nR nN nT φ) fun y1 =>
    if y1 ≤ x2 then
      some ((-1), φ)
    else
      qb1 (pr_guessAt F nR nN nT gg φ x2) fun y2 =>
      qb2 (se_isOf F nR nN nT gg φ x1 y2) fun y3 φ1 =>
      if y3 = 0 then
        se_firstOf_L2 F nR nN nT gg n φ1 x1 (x2 + 1)
      else
        some (y2, φ1)
def se_firstOf (F : Nat) (nR nN nT gg : Nat) (φ : qm_F) (x1 : Int32) : Option (Int32 × qm_F) :=
  se_firstOf_L2 F nR nN nT gg F φ x1 0
set_option maxRecDepth 100000 in
theorem se_firstOf_L2_n (F d : Nat) (nR nN nT gg : Nat) (X : List (Nat × Nat)) (ρ : Nat → Nat → Option Nat) (hd : 6 ≤ d) : ∀ (n : Nat) (φ : qm_F) (x1 : Int32) (x2 : Int32) (r : (Int32 × qm_F)), se_firstOf_L2 F nR nN nT gg n φ x1 x2 = some r → qm_Rn d 241 2 [.ref 30, .int x1, .int x2, .retAddr 0] [] (cs nR nN nT gg X ρ φ) (some (.int r.1), cs nR nN nT gg X ρ r.2) := by
  obtain ⟨d, rfl⟩ : ∃ e, d = e + 1 := ⟨d - 1, by omega⟩
  have hC := qC_241
  intro n
  induction n with
  | zero => intro φ x1 x2 r hs; simp [se_firstOf_L2] at hs
  | succ n ih =>
    intro φ x1 x2 r hs
    rw [se_firstOf_L2] at hs
    refine qr_s hC (n := 3) (pc' := 7) (ls' := [.ref 30, .int x1, .int x2, .retAddr 0]) (st' := [.ref 14, .int x2]) (h' := cs nR nN nT gg X ρ φ) rfl ?_
    obtain ⟨y1, hy, hs⟩ := qb1_s hs
    refine qr_c (j := 201) (as := [.ref 14]) (rest := [.int x2]) (v := some (.int y1)) (h1 := cs nR nN nT gg X ρ φ) hC rfl rfl qC_201 rfl rfl (pr_guesses_n F d nR nN nT (cr_X gg (cs_X gg X)) (cr_R (cs_R ρ)) φ _ (by omega) hy) ?_
    show qm_Rn (d + 1) 241 10 [.ref 30, .int x1, .int x2, .retAddr 0] [.int y1, .int x2] (cs nR nN nT gg X ρ φ) _
    refine qr_ge2 (tgt := 39) hC rfl (by decide) rfl (fun hc => ?_) (fun hc => ?_)
    · rw [if_pos hc] at hs
      refine qr_s hC (n := 1) (pc' := 40) (ls' := [.ref 30, .int x1, .int x2, .retAddr 0]) (st' := [.int (-1)]) (h' := cs nR nN nT gg X ρ φ) rfl ?_
      have hs := Option.some.inj hs
      subst hs
      exact qr_r hC rfl rfl
    · rw [if_neg hc] at hs
      refine qr_s hC (n := 3) (pc' := 18) (ls' := [.ref 30, .int x1, .int x2, .retAddr 0]) (st' := [.int x2, .ref 14]) (h' := cs nR nN nT gg X ρ φ) rfl ?_
      obtain ⟨y2, hy, hs⟩ := qb1_s hs
      refine qr_c (j := 213) (as := [.ref 14, .int x2]) (rest := []) (v := some (.int y2)) (h1 := cs nR nN nT gg X ρ φ) hC rfl rfl qC_213 rfl rfl (pr_guessAt_n F d nR nN nT gg (cs_X gg X) (cs_R ρ) φ x2 _ (by omega) hy) ?_
      show qm_Rn (d + 1) 241 21 [.ref 30, .int x1, .int x2, .retAddr 0] [.int y2] (cs nR nN nT gg X ρ φ) _
      refine qr_s hC (n := 4) (pc' := 25) (ls' := [.ref 30, .int x1, .int x2, .int y2]) (st' := [.int y2, .int x1, .ref 30]) (h' := cs nR nN nT gg X ρ φ) rfl ?_
      obtain ⟨y3, φ1, hy, hs⟩ := qb2_s hs
      refine qr_c (j := 239) (as := [.ref 30, .int x1, .int y2]) (rest := []) (v := some (.int y3)) (h1 := cs nR nN nT gg X ρ φ1) hC rfl rfl qC_239 rfl rfl (se_isOf_n F d nR nN nT gg X ρ φ x1 y2 _ (by omega) hy) ?_
      show qm_Rn (d + 1) 241 28 [.ref 30, .int x1, .int x2, .int y2] [.int y3] (cs nR nN nT gg X ρ φ1) _
      refine qr_eq1 (tgt := 33) hC rfl (by decide) rfl (fun hc => ?_) (fun hc => ?_)
      · rw [if_pos hc] at hs
        refine qr_s hC (n := 2) (pc' := 2) (ls' := [.ref 30, .int x1, .int (x2 + 1), .int y2]) (st' := []) (h' := cs nR nN nT gg X ρ φ1) rfl ?_
        exact qr_w (a := [.ref 30, .int x1, .int (x2 + 1), .retAddr 0]) ⟨Or.inr rfl, Or.inr rfl, Or.inr rfl, Or.inl rfl, trivial⟩ (ih φ1 x1 (x2 + 1) _ hs)
      · rw [if_neg hc] at hs
        refine qr_s hC (n := 1) (pc' := 32) (ls' := [.ref 30, .int x1, .int x2, .int y2]) (st' := [.int y2]) (h' := cs nR nN nT gg X ρ φ1) rfl ?_
        have hs := Option.some.inj hs
        subst hs
        exact qr_r hC rfl rfl
set_option maxRecDepth 100000 in
theorem se_firstOf_n (F d : Nat) (nR nN nT gg : Nat) (X : List (Nat × Nat)) (ρ : Nat → Nat → Option Nat) (φ : qm_F) (x1 : Int32) (r : (Int32 × qm_F)) (hd : 6 ≤ d) (hs : se_firstOf F nR nN nT gg φ x1 = some r) : qm_Rn d 241 0 [.ref 30, .int x1, .retAddr 0, .retAddr 0] [] (cs nR nN nT gg X ρ φ) (some (.int r.1), cs nR nN nT gg X ρ r.2) := by
  obtain ⟨d, rfl⟩ : ∃ e, d = e + 1 := ⟨d - 1, by omega⟩
  have hC := qC_241
  unfold se_firstOf at hs
  refine qr_s hC (n := 2) (pc' := 2) (ls' := [.ref 30, .int x1, .int 0, .retAddr 0]) (st' := []) (h' := cs nR nN nT gg X ρ φ) rfl ?_
  exact se_firstOf_L2_n F (d + 1) nR nN nT gg X ρ (by omega) F φ x1 0 _ hs
/-- SketchFiller.many(I)I -/
def sf_many (F : Nat) (nR nN nT gg : Nat) (φ : qm_F) (x1 : Int32) : Option (Int32 × qm_F) :=
  if x1 < 0 then
    some ((-1), φ)
  else
    if x1 < 6 then
      if 3 ≤ x1 then
        qb2 (se_firstOf F nR nN nT gg φ (x1 - 3)) fun y1 φ1 =>
        some (y1, φ1)
      else
        qb2 (se_countOf F nR nN nT gg φ x1) fun y2 φ2 =>
        some (y2, φ2)
    else
      some ((-1), φ)
set_option maxRecDepth 100000 in
theorem sf_many_n (F d : Nat) (nR nN nT gg : Nat) (X : List (Nat × Nat)) (ρ : Nat → Nat → Option Nat) (φ : qm_F) (x1 : Int32) (r : (Int32 × qm_F)) (hd : 7 ≤ d) (hs : sf_many F nR nN nT gg φ x1 = some r) : qm_Rn d 19 0 [.ref 0, .int x1] [] (cs nR nN nT gg X ρ φ) (some (.int r.1), cs nR nN nT gg X ρ r.2) := by
  obtain ⟨d, rfl⟩ : ∃ e, d = e + 1 := ⟨d - 1, by omega⟩
  have hC := qC_19
  unfold sf_many at hs
  refine qr_s hC (n := 4) (pc' := 8) (ls' := [.ref 0, .int x1]) (st' := [.int x1]) (h' := cs nR nN nT gg X ρ φ) rfl ?_
  refine qr_lt1 (tgt := 17) hC rfl (by decide) rfl (fun hc => ?_) (fun hc => ?_)
  · rw [if_pos hc] at hs
    refine qr_s hC (n := 1) (pc' := 18) (ls' := [.ref 0, .int x1]) (st' := [.int (-1)]) (h' := cs nR nN nT gg X ρ φ) rfl ?_
    have hs := Option.some.inj hs
    subst hs
    exact qr_r hC rfl rfl
  · rw [if_neg hc] at hs
    refine qr_s hC (n := 2) (pc' := 14) (ls' := [.ref 0, .int x1]) (st' := [.int 6, .int x1]) (h' := cs nR nN nT gg X ρ φ) rfl ?_
    refine qr_lt2 (tgt := 19) hC rfl (by decide) rfl (fun hc => ?_) (fun hc => ?_)
    · rw [if_pos hc] at hs
      refine qr_s hC (n := 2) (pc' := 21) (ls' := [.ref 0, .int x1]) (st' := [.int 3, .int x1]) (h' := cs nR nN nT gg X ρ φ) rfl ?_
      refine qr_ge2 (tgt := 35) hC rfl (by decide) rfl (fun hc => ?_) (fun hc => ?_)
      · rw [if_pos hc] at hs
        refine qr_s hC (n := 5) (pc' := 42) (ls' := [.ref 0, .int x1]) (st' := [.int (x1 - 3), .ref 30]) (h' := cs nR nN nT gg X ρ φ) rfl ?_
        obtain ⟨y1, φ1, hy, hs⟩ := qb2_s hs
        refine qr_c (j := 241) (as := [.ref 30, .int (x1 - 3)]) (rest := []) (v := some (.int y1)) (h1 := cs nR nN nT gg X ρ φ1) hC rfl rfl qC_241 rfl rfl (se_firstOf_n F d nR nN nT gg X ρ φ (x1 - 3) _ (by omega) hy) ?_
        show qm_Rn (d + 1) 19 45 [.ref 0, .int x1] [.int y1] (cs nR nN nT gg X ρ φ1) _
        have hs := Option.some.inj hs
        subst hs
        exact qr_r hC rfl rfl
      · rw [if_neg hc] at hs
        refine qr_s hC (n := 3) (pc' := 29) (ls' := [.ref 0, .int x1]) (st' := [.int x1, .ref 30]) (h' := cs nR nN nT gg X ρ φ) rfl ?_
        obtain ⟨y2, φ2, hy, hs⟩ := qb2_s hs
        refine qr_c (j := 240) (as := [.ref 30, .int x1]) (rest := []) (v := some (.int y2)) (h1 := cs nR nN nT gg X ρ φ2) hC rfl rfl qC_240 rfl rfl (se_countOf_n F d nR nN nT gg X ρ φ x1 _ (by omega) hy) ?_
        show qm_Rn (d + 1) 19 32 [.ref 0, .int x1] [.int y2] (cs nR nN nT gg X ρ φ2) _
        refine qr_s hC (n := 1) (pc' := 45) (ls' := [.ref 0, .int x1]) (st' := [.int y2]) (h' := cs nR nN nT gg X ρ φ2) rfl ?_
        have hs := Option.some.inj hs
        subst hs
        exact qr_r hC rfl rfl
    · rw [if_neg hc] at hs
      refine qr_s hC (n := 1) (pc' := 18) (ls' := [.ref 0, .int x1]) (st' := [.int (-1)]) (h' := cs nR nN nT gg X ρ φ) rfl ?_
      have hs := Option.some.inj hs
      subst hs
      exact qr_r hC rfl rfl
/-- SketchFiller$Verdicts.inputsWith(II)I -/
def ve_inputsWith_L5 (F : Nat) (nR nN nT gg : Nat) : Nat → qm_F → Int32 → Int32 → Int32 → Int32 → Option (Int32 × qm_F)
  | 0, _, _, _, _, _ => none
  | n + 1, φ, x1, x2, x3, x4 =>
    if (φ 25 1) ≤ x4 then
      some (x3, φ)
    else
      qb2 (ve_verdictOf F nR nN nT gg φ x1 x4) fun y1 φ1 =>
      if ¬ y1 = x2 then
        ve_inputsWith_L5 F nR nN nT gg n φ1 x1 x2 x3 (x4 + 1)
      else
        ve_inputsWith_L5 F nR nN nT gg n φ1 x1 x2 (x3 + 1) (x4 + 1)
def ve_inputsWith (F : Nat) (nR nN nT gg : Nat) (φ : qm_F) (x1 : Int32) (x2 : Int32) : Option (Int32 × qm_F) :=
  ve_inputsWith_L5 F nR nN nT gg F φ x1 x2 0 0
set_option maxRecDepth 100000 in
theorem ve_inputsWith_L5_n (F d : Nat) (nR nN nT gg : Nat) (X : List (Nat × Nat)) (ρ : Nat → Nat → Option Nat) (hd : 4 ≤ d) : ∀ (n : Nat) (φ : qm_F) (x1 : Int32) (x2 : Int32) (x3 : Int32) (x4 : Int32) (r : (Int32 × qm_F)), ve_inputsWith_L5 F nR nN nT gg n φ x1 x2 x3 x4 = some r → qm_Rn d 279 5 [.ref 25, .int x1, .int x2, .int x3, .int x4] [] (cs nR nN nT gg X ρ φ) (some (.int r.1), cs nR nN nT gg X ρ r.2) := by
  obtain ⟨d, rfl⟩ : ∃ e, d = e + 1 := ⟨d - 1, by omega⟩
  have hC := qC_279
  intro n
  induction n with
  | zero => intro φ x1 x2 x3 x4 r hs; simp [ve_inputsWith_L5] at hs
  | succ n ih =>
    intro φ x1 x2 x3 x4 r hs
    rw [ve_inputsWith_L5] at hs
    refine qr_s hC (n := 3) (pc' := 11) (ls' := [.ref 25, .int x1, .int x2, .int x3, .int x4]) (st' := [.int (φ 25 1), .int x4]) (h' := cs nR nN nT gg X ρ φ) rfl ?_
    refine qr_ge2 (tgt := 34) hC rfl (by decide) rfl (fun hc => ?_) (fun hc => ?_)
    · rw [if_pos hc] at hs
      refine qr_s hC (n := 1) (pc' := 35) (ls' := [.ref 25, .int x1, .int x2, .int x3, .int x4]) (st' := [.int x3]) (h' := cs nR nN nT gg X ρ φ) rfl ?_
      have hs := Option.some.inj hs
      subst hs
      exact qr_r hC rfl rfl
    · rw [if_neg hc] at hs
      refine qr_s hC (n := 3) (pc' := 18) (ls' := [.ref 25, .int x1, .int x2, .int x3, .int x4]) (st' := [.int x4, .int x1, .ref 25]) (h' := cs nR nN nT gg X ρ φ) rfl ?_
      obtain ⟨y1, φ1, hy, hs⟩ := qb2_s hs
      refine qr_c (j := 276) (as := [.ref 25, .int x1, .int x4]) (rest := []) (v := some (.int y1)) (h1 := cs nR nN nT gg X ρ φ1) hC rfl rfl qC_276 rfl rfl (ve_verdictOf_n F d nR nN nT gg X ρ φ x1 x4 _ (by omega) hy) ?_
      show qm_Rn (d + 1) 279 21 [.ref 25, .int x1, .int x2, .int x3, .int x4] [.int y1] (cs nR nN nT gg X ρ φ1) _
      refine qr_s hC (n := 1) (pc' := 22) (ls' := [.ref 25, .int x1, .int x2, .int x3, .int x4]) (st' := [.int x2, .int y1]) (h' := cs nR nN nT gg X ρ φ1) rfl ?_
      refine qr_ne2 (tgt := 28) hC rfl (by decide) rfl (fun hc => ?_) (fun hc => ?_)
      · rw [if_pos hc] at hs
        refine qr_s hC (n := 2) (pc' := 5) (ls' := [.ref 25, .int x1, .int x2, .int x3, .int (x4 + 1)]) (st' := []) (h' := cs nR nN nT gg X ρ φ1) rfl ?_
        exact ih φ1 x1 x2 x3 (x4 + 1) _ hs
      · rw [if_neg hc] at hs
        refine qr_s hC (n := 3) (pc' := 5) (ls' := [.ref 25, .int x1, .int x2, .int (x3 + 1), .int (x4 + 1)]) (st' := []) (h' := cs nR nN nT gg X ρ φ1) rfl ?_
        exact ih φ1 x1 x2 (x3 + 1) (x4 + 1) _ hs
set_option maxRecDepth 100000 in
theorem ve_inputsWith_n (F d : Nat) (nR nN nT gg : Nat) (X : List (Nat × Nat)) (ρ : Nat → Nat → Option Nat) (φ : qm_F) (x1 : Int32) (x2 : Int32) (r : (Int32 × qm_F)) (hd : 4 ≤ d) (hs : ve_inputsWith F nR nN nT gg φ x1 x2 = some r) : qm_Rn d 279 0 [.ref 25, .int x1, .int x2, .retAddr 0, .retAddr 0] [] (cs nR nN nT gg X ρ φ) (some (.int r.1), cs nR nN nT gg X ρ r.2) := by
  obtain ⟨d, rfl⟩ : ∃ e, d = e + 1 := ⟨d - 1, by omega⟩
  have hC := qC_279
  unfold ve_inputsWith at hs
  refine qr_s hC (n := 4) (pc' := 5) (ls' := [.ref 25, .int x1, .int x2, .int 0, .int 0]) (st' := []) (h' := cs nR nN nT gg X ρ φ) rfl ?_
  exact ve_inputsWith_L5_n F (d + 1) nR nN nT gg X ρ (by omega) F φ x1 x2 0 0 _ hs
/-- SketchFiller.by(II)I -/
def sf_by (F : Nat) (nR nN nT gg : Nat) (φ : qm_F) (x1 : Int32) (x2 : Int32) : Option (Int32 × qm_F) :=
  qb1 (pr_hasGuess F nR nN nT φ x1) fun y1 =>
  if ¬ y1 = 0 then
    if x2 < 0 then
      some ((-1), φ)
    else
      if x2 ≤ 5 then
        qb2 (ve_inputsWith F nR nN nT gg φ x1 x2) fun y2 φ1 =>
        some (y2, φ1)
      else
        some ((-1), φ)
  else
    some ((-1), φ)
set_option maxRecDepth 100000 in
theorem sf_by_n (F d : Nat) (nR nN nT gg : Nat) (X : List (Nat × Nat)) (ρ : Nat → Nat → Option Nat) (φ : qm_F) (x1 : Int32) (x2 : Int32) (r : (Int32 × qm_F)) (hd : 5 ≤ d) (hs : sf_by F nR nN nT gg φ x1 x2 = some r) : qm_Rn d 20 0 [.ref 0, .int x1, .int x2] [] (cs nR nN nT gg X ρ φ) (some (.int r.1), cs nR nN nT gg X ρ r.2) := by
  obtain ⟨d, rfl⟩ : ∃ e, d = e + 1 := ⟨d - 1, by omega⟩
  have hC := qC_20
  unfold sf_by at hs
  refine qr_s hC (n := 7) (pc' := 15) (ls' := [.ref 0, .int x1, .int x2]) (st' := [.int x1, .ref 14]) (h' := cs nR nN nT gg X ρ φ) rfl ?_
  obtain ⟨y1, hy, hs⟩ := qb1_s hs
  refine qr_c (j := 204) (as := [.ref 14, .int x1]) (rest := []) (v := some (.int y1)) (h1 := cs nR nN nT gg X ρ φ) hC rfl rfl qC_204 rfl rfl (pr_hasGuess_n F d nR nN nT (cr_X gg (cs_X gg X)) (cr_R (cs_R ρ)) φ x1 _ (by omega) hy) ?_
  show qm_Rn (d + 1) 20 18 [.ref 0, .int x1, .int x2] [.int y1] (cs nR nN nT gg X ρ φ) _
  refine qr_ne1 (tgt := 23) hC rfl (by decide) rfl (fun hc => ?_) (fun hc => ?_)
  · rw [if_pos hc] at hs
    refine qr_s hC (n := 1) (pc' := 24) (ls' := [.ref 0, .int x1, .int x2]) (st' := [.int x2]) (h' := cs nR nN nT gg X ρ φ) rfl ?_
    refine qr_lt1 (tgt := 32) hC rfl (by decide) rfl (fun hc => ?_) (fun hc => ?_)
    · rw [if_pos hc] at hs
      refine qr_s hC (n := 1) (pc' := 33) (ls' := [.ref 0, .int x1, .int x2]) (st' := [.int (-1)]) (h' := cs nR nN nT gg X ρ φ) rfl ?_
      have hs := Option.some.inj hs
      subst hs
      exact qr_r hC rfl rfl
    · rw [if_neg hc] at hs
      refine qr_s hC (n := 2) (pc' := 29) (ls' := [.ref 0, .int x1, .int x2]) (st' := [.int 5, .int x2]) (h' := cs nR nN nT gg X ρ φ) rfl ?_
      refine qr_le2 (tgt := 34) hC rfl (by decide) rfl (fun hc => ?_) (fun hc => ?_)
      · rw [if_pos hc] at hs
        refine qr_s hC (n := 5) (pc' := 43) (ls' := [.ref 0, .int x1, .int x2]) (st' := [.int x2, .int x1, .ref 25]) (h' := cs nR nN nT gg X ρ φ) rfl ?_
        obtain ⟨y2, φ1, hy, hs⟩ := qb2_s hs
        refine qr_c (j := 279) (as := [.ref 25, .int x1, .int x2]) (rest := []) (v := some (.int y2)) (h1 := cs nR nN nT gg X ρ φ1) hC rfl rfl qC_279 rfl rfl (ve_inputsWith_n F d nR nN nT gg X ρ φ x1 x2 _ (by omega) hy) ?_
        show qm_Rn (d + 1) 20 46 [.ref 0, .int x1, .int x2] [.int y2] (cs nR nN nT gg X ρ φ1) _
        have hs := Option.some.inj hs
        subst hs
        exact qr_r hC rfl rfl
      · rw [if_neg hc] at hs
        refine qr_s hC (n := 1) (pc' := 33) (ls' := [.ref 0, .int x1, .int x2]) (st' := [.int (-1)]) (h' := cs nR nN nT gg X ρ φ) rfl ?_
        have hs := Option.some.inj hs
        subst hs
        exact qr_r hC rfl rfl
  · rw [if_neg hc] at hs
    refine qr_s hC (n := 1) (pc' := 22) (ls' := [.ref 0, .int x1, .int x2]) (st' := [.int (-1)]) (h' := cs nR nN nT gg X ρ φ) rfl ?_
    have hs := Option.some.inj hs
    subst hs
    exact qr_r hC rfl rfl
/-- SketchFiller.refutes(I)I -/
def sf_refutes (F : Nat) (nR nN nT gg : Nat) (φ : qm_F) (x1 : Int32) : Option (Int32 × qm_F) :=
  qb1 (pr_hasInput F nR nN nT φ x1) fun y1 =>
  if ¬ y1 = 0 then
    qb1 (se_markLeft F nR nN nT gg φ) fun φ1 =>
    qb2 (se_leftRefutedBy F nR nN nT gg φ1 x1) fun y2 φ2 =>
    some (y2, φ2)
  else
    some ((-1), φ)
set_option maxRecDepth 100000 in
theorem sf_refutes_n (F d : Nat) (nR nN nT gg : Nat) (X : List (Nat × Nat)) (ρ : Nat → Nat → Option Nat) (φ : qm_F) (x1 : Int32) (r : (Int32 × qm_F)) (hd : 6 ≤ d) (hs : sf_refutes F nR nN nT gg φ x1 = some r) : qm_Rn d 21 0 [.ref 0, .int x1] [] (cs nR nN nT gg X ρ φ) (some (.int r.1), cs nR nN nT gg X ρ r.2) := by
  obtain ⟨d, rfl⟩ : ∃ e, d = e + 1 := ⟨d - 1, by omega⟩
  have hC := qC_21
  unfold sf_refutes at hs
  refine qr_s hC (n := 7) (pc' := 15) (ls' := [.ref 0, .int x1]) (st' := [.int x1, .ref 14]) (h' := cs nR nN nT gg X ρ φ) rfl ?_
  obtain ⟨y1, hy, hs⟩ := qb1_s hs
  refine qr_c (j := 205) (as := [.ref 14, .int x1]) (rest := []) (v := some (.int y1)) (h1 := cs nR nN nT gg X ρ φ) hC rfl rfl qC_205 rfl rfl (pr_hasInput_n F d nR nN nT (cr_X gg (cs_X gg X)) (cr_R (cs_R ρ)) φ x1 _ (by omega) hy) ?_
  show qm_Rn (d + 1) 21 18 [.ref 0, .int x1] [.int y1] (cs nR nN nT gg X ρ φ) _
  refine qr_ne1 (tgt := 23) hC rfl (by decide) rfl (fun hc => ?_) (fun hc => ?_)
  · rw [if_pos hc] at hs
    refine qr_s hC (n := 2) (pc' := 27) (ls' := [.ref 0, .int x1]) (st' := [.ref 30]) (h' := cs nR nN nT gg X ρ φ) rfl ?_
    obtain ⟨φ1, hy, hs⟩ := qb1_s hs
    refine qr_c (j := 242) (as := [.ref 30]) (rest := []) (v := none) (h1 := cs nR nN nT gg X ρ φ1) hC rfl rfl qC_242 rfl rfl (se_markLeft_n F d nR nN nT gg X ρ φ _ (by omega) hy) ?_
    show qm_Rn (d + 1) 21 30 [.ref 0, .int x1] [] (cs nR nN nT gg X ρ φ1) _
    refine qr_s hC (n := 3) (pc' := 35) (ls' := [.ref 0, .int x1]) (st' := [.int x1, .ref 30]) (h' := cs nR nN nT gg X ρ φ1) rfl ?_
    obtain ⟨y2, φ2, hy, hs⟩ := qb2_s hs
    refine qr_c (j := 243) (as := [.ref 30, .int x1]) (rest := []) (v := some (.int y2)) (h1 := cs nR nN nT gg X ρ φ2) hC rfl rfl qC_243 rfl rfl (se_leftRefutedBy_n F d nR nN nT gg X ρ φ1 x1 _ (by omega) hy) ?_
    show qm_Rn (d + 1) 21 38 [.ref 0, .int x1] [.int y2] (cs nR nN nT gg X ρ φ2) _
    have hs := Option.some.inj hs
    subst hs
    exact qr_r hC rfl rfl
  · rw [if_neg hc] at hs
    refine qr_s hC (n := 1) (pc' := 22) (ls' := [.ref 0, .int x1]) (st' := [.int (-1)]) (h' := cs nR nN nT gg X ρ φ) rfl ?_
    have hs := Option.some.inj hs
    subst hs
    exact qr_r hC rfl rfl
/-- SketchFiller.sharpest(I)I -/
def sf_sharpest (F : Nat) (nR nN nT gg : Nat) (φ : qm_F) (x1 : Int32) : Option (Int32 × qm_F) :=
  if x1 < 0 then
    some ((-1), φ)
  else
    if x1 ≤ 1 then
      qb1 (se_markLeft F nR nN nT gg φ) fun φ1 =>
      qb2 (se_sharpestOf F nR nN nT gg φ1 (-1)) fun y1 φ2 =>
      if ¬ x1 = 0 then
        if ¬ y1 = (-1) then
          qb2 (se_leftRefutedBy F nR nN nT gg φ2 y1) fun y2 φ3 =>
          some (y2, φ3)
        else
          some (0, φ2)
      else
        some (y1, φ2)
    else
      some ((-1), φ)
set_option maxRecDepth 100000 in
theorem sf_sharpest_n (F d : Nat) (nR nN nT gg : Nat) (X : List (Nat × Nat)) (ρ : Nat → Nat → Option Nat) (φ : qm_F) (x1 : Int32) (r : (Int32 × qm_F)) (hd : 6 ≤ d) (hs : sf_sharpest F nR nN nT gg φ x1 = some r) : qm_Rn d 22 0 [.ref 0, .int x1, .retAddr 0] [] (cs nR nN nT gg X ρ φ) (some (.int r.1), cs nR nN nT gg X ρ r.2) := by
  obtain ⟨d, rfl⟩ : ∃ e, d = e + 1 := ⟨d - 1, by omega⟩
  have hC := qC_22
  unfold sf_sharpest at hs
  refine qr_s hC (n := 4) (pc' := 8) (ls' := [.ref 0, .int x1, .retAddr 0]) (st' := [.int x1]) (h' := cs nR nN nT gg X ρ φ) rfl ?_
  refine qr_lt1 (tgt := 16) hC rfl (by decide) rfl (fun hc => ?_) (fun hc => ?_)
  · rw [if_pos hc] at hs
    refine qr_s hC (n := 1) (pc' := 17) (ls' := [.ref 0, .int x1, .retAddr 0]) (st' := [.int (-1)]) (h' := cs nR nN nT gg X ρ φ) rfl ?_
    have hs := Option.some.inj hs
    subst hs
    exact qr_r hC rfl rfl
  · rw [if_neg hc] at hs
    refine qr_s hC (n := 2) (pc' := 13) (ls' := [.ref 0, .int x1, .retAddr 0]) (st' := [.int 1, .int x1]) (h' := cs nR nN nT gg X ρ φ) rfl ?_
    refine qr_le2 (tgt := 18) hC rfl (by decide) rfl (fun hc => ?_) (fun hc => ?_)
    · rw [if_pos hc] at hs
      refine qr_s hC (n := 2) (pc' := 22) (ls' := [.ref 0, .int x1, .retAddr 0]) (st' := [.ref 30]) (h' := cs nR nN nT gg X ρ φ) rfl ?_
      obtain ⟨φ1, hy, hs⟩ := qb1_s hs
      refine qr_c (j := 242) (as := [.ref 30]) (rest := []) (v := none) (h1 := cs nR nN nT gg X ρ φ1) hC rfl rfl qC_242 rfl rfl (se_markLeft_n F d nR nN nT gg X ρ φ _ (by omega) hy) ?_
      show qm_Rn (d + 1) 22 25 [.ref 0, .int x1, .retAddr 0] [] (cs nR nN nT gg X ρ φ1) _
      refine qr_s hC (n := 3) (pc' := 30) (ls' := [.ref 0, .int x1, .retAddr 0]) (st' := [.int (-1), .ref 30]) (h' := cs nR nN nT gg X ρ φ1) rfl ?_
      obtain ⟨y1, φ2, hy, hs⟩ := qb2_s hs
      refine qr_c (j := 244) (as := [.ref 30, .int (-1)]) (rest := []) (v := some (.int y1)) (h1 := cs nR nN nT gg X ρ φ2) hC rfl rfl qC_244 rfl rfl (se_sharpestOf_n F d nR nN nT gg X ρ φ1 (-1) _ (by omega) hy) ?_
      show qm_Rn (d + 1) 22 33 [.ref 0, .int x1, .retAddr 0] [.int y1] (cs nR nN nT gg X ρ φ2) _
      refine qr_s hC (n := 2) (pc' := 35) (ls' := [.ref 0, .int x1, .int y1]) (st' := [.int x1]) (h' := cs nR nN nT gg X ρ φ2) rfl ?_
      refine qr_ne1 (tgt := 40) hC rfl (by decide) rfl (fun hc => ?_) (fun hc => ?_)
      · rw [if_pos hc] at hs
        refine qr_s hC (n := 2) (pc' := 42) (ls' := [.ref 0, .int x1, .int y1]) (st' := [.int (-1), .int y1]) (h' := cs nR nN nT gg X ρ φ2) rfl ?_
        refine qr_ne2 (tgt := 49) hC rfl (by decide) rfl (fun hc => ?_) (fun hc => ?_)
        · rw [if_pos hc] at hs
          refine qr_s hC (n := 3) (pc' := 54) (ls' := [.ref 0, .int x1, .int y1]) (st' := [.int y1, .ref 30]) (h' := cs nR nN nT gg X ρ φ2) rfl ?_
          obtain ⟨y2, φ3, hy, hs⟩ := qb2_s hs
          refine qr_c (j := 243) (as := [.ref 30, .int y1]) (rest := []) (v := some (.int y2)) (h1 := cs nR nN nT gg X ρ φ3) hC rfl rfl qC_243 rfl rfl (se_leftRefutedBy_n F d nR nN nT gg X ρ φ2 y1 _ (by omega) hy) ?_
          show qm_Rn (d + 1) 22 57 [.ref 0, .int x1, .int y1] [.int y2] (cs nR nN nT gg X ρ φ3) _
          have hs := Option.some.inj hs
          subst hs
          exact qr_r hC rfl rfl
        · rw [if_neg hc] at hs
          refine qr_s hC (n := 2) (pc' := 57) (ls' := [.ref 0, .int x1, .int y1]) (st' := [.int 0]) (h' := cs nR nN nT gg X ρ φ2) rfl ?_
          have hs := Option.some.inj hs
          subst hs
          exact qr_r hC rfl rfl
      · rw [if_neg hc] at hs
        refine qr_s hC (n := 1) (pc' := 39) (ls' := [.ref 0, .int x1, .int y1]) (st' := [.int y1]) (h' := cs nR nN nT gg X ρ φ2) rfl ?_
        have hs := Option.some.inj hs
        subst hs
        exact qr_r hC rfl rfl
    · rw [if_neg hc] at hs
      refine qr_s hC (n := 1) (pc' := 17) (ls' := [.ref 0, .int x1, .retAddr 0]) (st' := [.int (-1)]) (h' := cs nR nN nT gg X ρ φ) rfl ?_
      have hs := Option.some.inj hs
      subst hs
      exact qr_r hC rfl rfl
/-- SketchFiller$Program.withValue(III)I -/
def pr_withValue (F : Nat) (nR nN nT : Nat) (φ : qm_F) (x1 : Int32) (x2 : Int32) (x3 : Int32) : Option Int32 :=
  qb1 (pr_hasHole F nR nN nT φ x2) fun y1 =>
  if ¬ y1 = 0 then
    qb1 (pr_shiftOfHole F nR nN nT φ x2) fun y2 =>
    qg (qm_in x2 5) <|
    some ((x1 &&& (((((1 : Int32) <<< ((φ 16 x2.toNatClampNeg) &&& 31)) - 1) <<< (y2 &&& 31)) ^^^ (-1))) ||| ((x3 <<< (y2 &&& 31)) &&& ((((1 : Int32) <<< ((φ 16 x2.toNatClampNeg) &&& 31)) - 1) <<< (y2 &&& 31))))
  else
    some x1
set_option maxRecDepth 100000 in
theorem pr_withValue_n (F d : Nat) (nR nN nT : Nat) (X : List (Nat × Nat)) (ρ : Nat → Nat → Option Nat) (φ : qm_F) (x1 : Int32) (x2 : Int32) (x3 : Int32) (r : Int32) (hd : 1 ≤ d) (hs : pr_withValue F nR nN nT φ x1 x2 x3 = some r) : qm_Rn d 209 0 [.ref 14, .int x1, .int x2, .int x3, .retAddr 0, .retAddr 0] [] (cw nR nN nT X ρ φ) (some (.int r), cw nR nN nT X ρ φ) := by
  obtain ⟨d, rfl⟩ : ∃ e, d = e + 1 := ⟨d - 1, by omega⟩
  have hC := qC_209
  unfold pr_withValue at hs
  refine qr_s hC (n := 2) (pc' := 2) (ls' := [.ref 14, .int x1, .int x2, .int x3, .retAddr 0, .retAddr 0]) (st' := [.int x2, .ref 14]) (h' := cw nR nN nT X ρ φ) rfl ?_
  obtain ⟨y1, hy, hs⟩ := qb1_s hs
  refine qr_c (j := 203) (as := [.ref 14, .int x2]) (rest := []) (v := some (.int y1)) (h1 := cw nR nN nT X ρ φ) hC rfl rfl qC_203 rfl rfl (pr_hasHole_n F d nR nN nT X ρ φ x2 _ (by omega) hy) ?_
  show qm_Rn (d + 1) 209 5 [.ref 14, .int x1, .int x2, .int x3, .retAddr 0, .retAddr 0] [.int y1] (cw nR nN nT X ρ φ) _
  refine qr_ne1 (tgt := 10) hC rfl (by decide) rfl (fun hc => ?_) (fun hc => ?_)
  · rw [if_pos hc] at hs
    refine qr_s hC (n := 2) (pc' := 12) (ls' := [.ref 14, .int x1, .int x2, .int x3, .retAddr 0, .retAddr 0]) (st' := [.int x2, .ref 14]) (h' := cw nR nN nT X ρ φ) rfl ?_
    obtain ⟨y2, hy, hs⟩ := qb1_s hs
    refine qr_c (j := 207) (as := [.ref 14, .int x2]) (rest := []) (v := some (.int y2)) (h1 := cw nR nN nT X ρ φ) hC rfl rfl qC_207 rfl rfl (pr_shiftOfHole_n F d nR nN nT X ρ φ x2 _ (by omega) hy) ?_
    show qm_Rn (d + 1) 209 15 [.ref 14, .int x1, .int x2, .int x3, .retAddr 0, .retAddr 0] [.int y2] (cw nR nN nT X ρ φ) _
    refine qr_s hC (n := 5) (pc' := 23) (ls' := [.ref 14, .int x1, .int x2, .int x3, .int y2, .retAddr 0]) (st' := [.int x2, .ref 16, .int 1]) (h' := cw nR nN nT X ρ φ) rfl ?_
    obtain ⟨hq, hs⟩ := qg_s hs
    refine qr_ia (v := φ 16 x2.toNatClampNeg) hC rfl rfl hq rfl ?_
    refine qr_s hC (n := 17) (pc' := 46) (ls' := [.ref 14, .int x1, .int x2, .int x3, .int y2, .int ((((1 : Int32) <<< ((φ 16 x2.toNatClampNeg) &&& 31)) - 1) <<< (y2 &&& 31))]) (st' := [.int ((x1 &&& (((((1 : Int32) <<< ((φ 16 x2.toNatClampNeg) &&& 31)) - 1) <<< (y2 &&& 31)) ^^^ (-1))) ||| ((x3 <<< (y2 &&& 31)) &&& ((((1 : Int32) <<< ((φ 16 x2.toNatClampNeg) &&& 31)) - 1) <<< (y2 &&& 31))))]) (h' := cw nR nN nT X ρ φ) rfl ?_
    have hs := Option.some.inj hs
    subst hs
    exact qr_r hC rfl rfl
  · rw [if_neg hc] at hs
    refine qr_s hC (n := 1) (pc' := 9) (ls' := [.ref 14, .int x1, .int x2, .int x3, .retAddr 0, .retAddr 0]) (st' := [.int x1]) (h' := cw nR nN nT X ρ φ) rfl ?_
    have hs := Option.some.inj hs
    subst hs
    exact qr_r hC rfl rfl
/-- SketchFiller.free(II)I -/
def sf_free_L51 (F : Nat) (nR nN nT gg : Nat) : Nat → qm_F → Int32 → Int32 → Int32 → Int32 → Option (Int32 × qm_F)
  | 0, _, _, _, _, _ => none
  | n + 1, φ, x1, x2, x4, x5 =>
    qg (qm_in x2 5) <|
    if ((1 : Int32) <<< ((φ 16 x2.toNatClampNeg) &&& 31)) ≤ x5 then
      some (x4, φ)
    else
      qb1 (pr_withValue F nR nN nT φ x1 x2 x5) fun y1 =>
      qb2 (ve_leastRefuter F nR nN nT gg φ y1) fun y2 φ1 =>
      if ¬ y2 = (-1) then
        sf_free_L51 F nR nN nT gg n φ1 x1 x2 x4 (x5 + 1)
      else
        sf_free_L51 F nR nN nT gg n φ1 x1 x2 (x4 + 1) (x5 + 1)
def sf_free (F : Nat) (nR nN nT gg : Nat) (φ : qm_F) (x1 : Int32) (x2 : Int32) : Option (Int32 × qm_F) :=
  qb1 (pr_hasGuess F nR nN nT φ x1) fun y1 =>
  if y1 = 0 then
    some ((-1), φ)
  else
    qb1 (pr_hasHole F nR nN nT φ x2) fun y2 =>
    if ¬ y2 = 0 then
      sf_free_L51 F nR nN nT gg F φ x1 x2 0 0
    else
      some ((-1), φ)
set_option maxRecDepth 100000 in
theorem sf_free_L51_n (F d : Nat) (nR nN nT gg : Nat) (X : List (Nat × Nat)) (ρ : Nat → Nat → Option Nat) (hd : 5 ≤ d) : ∀ (n : Nat) (φ : qm_F) (x1 : Int32) (x2 : Int32) (x4 : Int32) (x5 : Int32) (r : (Int32 × qm_F)), sf_free_L51 F nR nN nT gg n φ x1 x2 x4 x5 = some r → qm_Rn d 23 51 [.ref 0, .int x1, .int x2, .ref 14, .int x4, .int x5] [] (cs nR nN nT gg X ρ φ) (some (.int r.1), cs nR nN nT gg X ρ r.2) := by
  obtain ⟨d, rfl⟩ : ∃ e, d = e + 1 := ⟨d - 1, by omega⟩
  have hC := qC_23
  intro n
  induction n with
  | zero => intro φ x1 x2 x4 x5 r hs; simp [sf_free_L51] at hs
  | succ n ih =>
    intro φ x1 x2 x4 x5 r hs
    rw [sf_free_L51] at hs
    refine qr_s hC (n := 5) (pc' := 59) (ls' := [.ref 0, .int x1, .int x2, .ref 14, .int x4, .int x5]) (st' := [.int x2, .ref 16, .int 1, .int x5]) (h' := cs nR nN nT gg X ρ φ) rfl ?_
    obtain ⟨hq, hs⟩ := qg_s hs
    refine qr_ia (v := φ 16 x2.toNatClampNeg) hC rfl rfl hq rfl ?_
    refine qr_s hC (n := 1) (pc' := 61) (ls' := [.ref 0, .int x1, .int x2, .ref 14, .int x4, .int x5]) (st' := [.int ((1 : Int32) <<< ((φ 16 x2.toNatClampNeg) &&& 31)), .int x5]) (h' := cs nR nN nT gg X ρ φ) rfl ?_
    refine qr_ge2 (tgt := 95) hC rfl (by decide) rfl (fun hc => ?_) (fun hc => ?_)
    · rw [if_pos hc] at hs
      refine qr_s hC (n := 1) (pc' := 97) (ls' := [.ref 0, .int x1, .int x2, .ref 14, .int x4, .int x5]) (st' := [.int x4]) (h' := cs nR nN nT gg X ρ φ) rfl ?_
      have hs := Option.some.inj hs
      subst hs
      exact qr_r hC rfl rfl
    · rw [if_neg hc] at hs
      refine qr_s hC (n := 7) (pc' := 76) (ls' := [.ref 0, .int x1, .int x2, .ref 14, .int x4, .int x5]) (st' := [.int x5, .int x2, .int x1, .ref 14, .ref 25]) (h' := cs nR nN nT gg X ρ φ) rfl ?_
      obtain ⟨y1, hy, hs⟩ := qb1_s hs
      refine qr_c (j := 209) (as := [.ref 14, .int x1, .int x2, .int x5]) (rest := [.ref 25]) (v := some (.int y1)) (h1 := cs nR nN nT gg X ρ φ) hC rfl rfl qC_209 rfl rfl (pr_withValue_n F d nR nN nT (cr_X gg (cs_X gg X)) (cr_R (cs_R ρ)) φ x1 x2 x5 _ (by omega) hy) ?_
      show qm_Rn (d + 1) 23 79 [.ref 0, .int x1, .int x2, .ref 14, .int x4, .int x5] [.int y1, .ref 25] (cs nR nN nT gg X ρ φ) _
      obtain ⟨y2, φ1, hy, hs⟩ := qb2_s hs
      refine qr_c (j := 277) (as := [.ref 25, .int y1]) (rest := []) (v := some (.int y2)) (h1 := cs nR nN nT gg X ρ φ1) hC rfl rfl qC_277 rfl rfl (ve_leastRefuter_n F d nR nN nT gg X ρ φ y1 _ (by omega) hy) ?_
      show qm_Rn (d + 1) 23 82 [.ref 0, .int x1, .int x2, .ref 14, .int x4, .int x5] [.int y2] (cs nR nN nT gg X ρ φ1) _
      refine qr_s hC (n := 1) (pc' := 83) (ls' := [.ref 0, .int x1, .int x2, .ref 14, .int x4, .int x5]) (st' := [.int (-1), .int y2]) (h' := cs nR nN nT gg X ρ φ1) rfl ?_
      refine qr_ne2 (tgt := 89) hC rfl (by decide) rfl (fun hc => ?_) (fun hc => ?_)
      · rw [if_pos hc] at hs
        refine qr_s hC (n := 2) (pc' := 51) (ls' := [.ref 0, .int x1, .int x2, .ref 14, .int x4, .int (x5 + 1)]) (st' := []) (h' := cs nR nN nT gg X ρ φ1) rfl ?_
        exact ih φ1 x1 x2 x4 (x5 + 1) _ hs
      · rw [if_neg hc] at hs
        refine qr_s hC (n := 3) (pc' := 51) (ls' := [.ref 0, .int x1, .int x2, .ref 14, .int (x4 + 1), .int (x5 + 1)]) (st' := []) (h' := cs nR nN nT gg X ρ φ1) rfl ?_
        exact ih φ1 x1 x2 (x4 + 1) (x5 + 1) _ hs
set_option maxRecDepth 100000 in
theorem sf_free_n (F d : Nat) (nR nN nT gg : Nat) (X : List (Nat × Nat)) (ρ : Nat → Nat → Option Nat) (φ : qm_F) (x1 : Int32) (x2 : Int32) (r : (Int32 × qm_F)) (hd : 5 ≤ d) (hs : sf_free F nR nN nT gg φ x1 x2 = some r) : qm_Rn d 23 0 [.ref 0, .int x1, .int x2, .retAddr 0, .retAddr 0, .retAddr 0] [] (cs nR nN nT gg X ρ φ) (some (.int r.1), cs nR nN nT gg X ρ r.2) := by
  obtain ⟨d, rfl⟩ : ∃ e, d = e + 1 := ⟨d - 1, by omega⟩
  have hC := qC_23
  unfold sf_free at hs
  refine qr_s hC (n := 7) (pc' := 15) (ls' := [.ref 0, .int x1, .int x2, .retAddr 0, .retAddr 0, .retAddr 0]) (st' := [.int x1, .ref 14]) (h' := cs nR nN nT gg X ρ φ) rfl ?_
  obtain ⟨y1, hy, hs⟩ := qb1_s hs
  refine qr_c (j := 204) (as := [.ref 14, .int x1]) (rest := []) (v := some (.int y1)) (h1 := cs nR nN nT gg X ρ φ) hC rfl rfl qC_204 rfl rfl (pr_hasGuess_n F d nR nN nT (cr_X gg (cs_X gg X)) (cr_R (cs_R ρ)) φ x1 _ (by omega) hy) ?_
  show qm_Rn (d + 1) 23 18 [.ref 0, .int x1, .int x2, .retAddr 0, .retAddr 0, .retAddr 0] [.int y1] (cs nR nN nT gg X ρ φ) _
  refine qr_eq1 (tgt := 35) hC rfl (by decide) rfl (fun hc => ?_) (fun hc => ?_)
  · rw [if_pos hc] at hs
    refine qr_s hC (n := 1) (pc' := 36) (ls' := [.ref 0, .int x1, .int x2, .retAddr 0, .retAddr 0, .retAddr 0]) (st' := [.int (-1)]) (h' := cs nR nN nT gg X ρ φ) rfl ?_
    have hs := Option.some.inj hs
    subst hs
    exact qr_r hC rfl rfl
  · rw [if_neg hc] at hs
    refine qr_s hC (n := 4) (pc' := 29) (ls' := [.ref 0, .int x1, .int x2, .retAddr 0, .retAddr 0, .retAddr 0]) (st' := [.int x2, .ref 14]) (h' := cs nR nN nT gg X ρ φ) rfl ?_
    obtain ⟨y2, hy, hs⟩ := qb1_s hs
    refine qr_c (j := 203) (as := [.ref 14, .int x2]) (rest := []) (v := some (.int y2)) (h1 := cs nR nN nT gg X ρ φ) hC rfl rfl qC_203 rfl rfl (pr_hasHole_n F d nR nN nT (cr_X gg (cs_X gg X)) (cr_R (cs_R ρ)) φ x2 _ (by omega) hy) ?_
    show qm_Rn (d + 1) 23 32 [.ref 0, .int x1, .int x2, .retAddr 0, .retAddr 0, .retAddr 0] [.int y2] (cs nR nN nT gg X ρ φ) _
    refine qr_ne1 (tgt := 37) hC rfl (by decide) rfl (fun hc => ?_) (fun hc => ?_)
    · rw [if_pos hc] at hs
      refine qr_s hC (n := 8) (pc' := 51) (ls' := [.ref 0, .int x1, .int x2, .ref 14, .int 0, .int 0]) (st' := []) (h' := cs nR nN nT gg X ρ φ) rfl ?_
      exact sf_free_L51_n F (d + 1) nR nN nT gg X ρ (by omega) F φ x1 x2 0 0 _ hs
    · rw [if_neg hc] at hs
      refine qr_s hC (n := 1) (pc' := 36) (ls' := [.ref 0, .int x1, .int x2, .retAddr 0, .retAddr 0, .retAddr 0]) (st' := [.int (-1)]) (h' := cs nR nN nT gg X ρ φ) rfl ?_
      have hs := Option.some.inj hs
      subst hs
      exact qr_r hC rfl rfl
/-- SketchFiller$Search.leftWith(J)I -/
def se_leftWith_L5 (F : Nat) (nR nN nT gg : Nat) : Nat → qm_F → Int64 → Int32 → Int32 → Option (Int32 × qm_F)
  | 0, _, _, _, _ => none
  | n + 1, φ, x1, x3, x4 =>
    qg (decide (gg < 2147483648)) <|
    if (Int32.ofNat gg) ≤ x4 then
      some (x3, φ)
    else
      qb2 (se_isLeft F nR nN nT gg φ x4 x1) fun y1 φ1 =>
      if y1 = 0 then
        se_leftWith_L5 F nR nN nT gg n φ1 x1 x3 (x4 + 1)
      else
        se_leftWith_L5 F nR nN nT gg n φ1 x1 (x3 + 1) (x4 + 1)
def se_leftWith (F : Nat) (nR nN nT gg : Nat) (φ : qm_F) (x1 : Int64) : Option (Int32 × qm_F) :=
  se_leftWith_L5 F nR nN nT gg F φ x1 0 0
set_option maxRecDepth 100000 in
theorem se_leftWith_L5_n (F d : Nat) (nR nN nT gg : Nat) (X : List (Nat × Nat)) (ρ : Nat → Nat → Option Nat) (hd : 5 ≤ d) : ∀ (n : Nat) (φ : qm_F) (x1 : Int64) (x3 : Int32) (x4 : Int32) (r : (Int32 × qm_F)), se_leftWith_L5 F nR nN nT gg n φ x1 x3 x4 = some r → qm_Rn d 245 5 [.ref 30, .long x1, .retAddr 0, .int x3, .int x4] [] (cs nR nN nT gg X ρ φ) (some (.int r.1), cs nR nN nT gg X ρ r.2) := by
  obtain ⟨d, rfl⟩ : ∃ e, d = e + 1 := ⟨d - 1, by omega⟩
  have hC := qC_245
  intro n
  induction n with
  | zero => intro φ x1 x3 x4 r hs; simp [se_leftWith_L5] at hs
  | succ n ih =>
    intro φ x1 x3 x4 r hs
    rw [se_leftWith_L5] at hs
    refine qr_s hC (n := 3) (pc' := 11) (ls' := [.ref 30, .long x1, .retAddr 0, .int x3, .int x4]) (st' := [.ref 33, .int x4]) (h' := cs nR nN nT gg X ρ φ) rfl ?_
    obtain ⟨hq, hs⟩ := qg_s hs
    refine qr_al hC rfl rfl hq ?_
    refine qr_ge2 (tgt := 34) hC rfl (by decide) rfl (fun hc => ?_) (fun hc => ?_)
    · rw [if_pos hc] at hs
      refine qr_s hC (n := 1) (pc' := 35) (ls' := [.ref 30, .long x1, .retAddr 0, .int x3, .int x4]) (st' := [.int x3]) (h' := cs nR nN nT gg X ρ φ) rfl ?_
      have hs := Option.some.inj hs
      subst hs
      exact qr_r hC rfl rfl
    · rw [if_neg hc] at hs
      refine qr_s hC (n := 3) (pc' := 19) (ls' := [.ref 30, .long x1, .retAddr 0, .int x3, .int x4]) (st' := [.long x1, .int x4, .ref 30]) (h' := cs nR nN nT gg X ρ φ) rfl ?_
      obtain ⟨y1, φ1, hy, hs⟩ := qb2_s hs
      refine qr_c (j := 238) (as := [.ref 30, .int x4, .long x1]) (rest := []) (v := some (.int y1)) (h1 := cs nR nN nT gg X ρ φ1) hC rfl rfl qC_238 rfl rfl (se_isLeft_n F d nR nN nT gg X ρ φ x4 x1 _ (by omega) hy) ?_
      show qm_Rn (d + 1) 245 22 [.ref 30, .long x1, .retAddr 0, .int x3, .int x4] [.int y1] (cs nR nN nT gg X ρ φ1) _
      refine qr_eq1 (tgt := 28) hC rfl (by decide) rfl (fun hc => ?_) (fun hc => ?_)
      · rw [if_pos hc] at hs
        refine qr_s hC (n := 2) (pc' := 5) (ls' := [.ref 30, .long x1, .retAddr 0, .int x3, .int (x4 + 1)]) (st' := []) (h' := cs nR nN nT gg X ρ φ1) rfl ?_
        exact ih φ1 x1 x3 (x4 + 1) _ hs
      · rw [if_neg hc] at hs
        refine qr_s hC (n := 3) (pc' := 5) (ls' := [.ref 30, .long x1, .retAddr 0, .int (x3 + 1), .int (x4 + 1)]) (st' := []) (h' := cs nR nN nT gg X ρ φ1) rfl ?_
        exact ih φ1 x1 (x3 + 1) (x4 + 1) _ hs
set_option maxRecDepth 100000 in
theorem se_leftWith_n (F d : Nat) (nR nN nT gg : Nat) (X : List (Nat × Nat)) (ρ : Nat → Nat → Option Nat) (φ : qm_F) (x1 : Int64) (r : (Int32 × qm_F)) (hd : 5 ≤ d) (hs : se_leftWith F nR nN nT gg φ x1 = some r) : qm_Rn d 245 0 [.ref 30, .long x1, .retAddr 0, .retAddr 0, .retAddr 0] [] (cs nR nN nT gg X ρ φ) (some (.int r.1), cs nR nN nT gg X ρ r.2) := by
  obtain ⟨d, rfl⟩ : ∃ e, d = e + 1 := ⟨d - 1, by omega⟩
  have hC := qC_245
  unfold se_leftWith at hs
  refine qr_s hC (n := 4) (pc' := 5) (ls' := [.ref 30, .long x1, .retAddr 0, .int 0, .int 0]) (st' := []) (h' := cs nR nN nT gg X ρ φ) rfl ?_
  exact se_leftWith_L5_n F (d + 1) nR nN nT gg X ρ (by omega) F φ x1 0 0 _ hs
/-- SketchFiller.needed(I)I -/
def sf_needed (F : Nat) (nR nN nT gg : Nat) (φ : qm_F) (x1 : Int32) : Option (Int32 × qm_F) :=
  qb1 (se_hasKept F nR nN nT gg φ x1) fun y1 =>
  if ¬ y1 = 0 then
    qb2 (se_leftWith F nR nN nT gg φ ((-1) &&& (((1 : Int64) <<< (Int32.toInt64 x1 &&& 63)) ^^^ (-1)))) fun y2 φ1 =>
    qb2 (se_leftWith F nR nN nT gg φ1 (-1)) fun y3 φ2 =>
    if y2 ≤ y3 then
      some (0, φ2)
    else
      some (1, φ2)
  else
    some ((-1), φ)
set_option maxRecDepth 100000 in
theorem sf_needed_n (F d : Nat) (nR nN nT gg : Nat) (X : List (Nat × Nat)) (ρ : Nat → Nat → Option Nat) (φ : qm_F) (x1 : Int32) (r : (Int32 × qm_F)) (hd : 6 ≤ d) (hs : sf_needed F nR nN nT gg φ x1 = some r) : qm_Rn d 24 0 [.ref 0, .int x1] [] (cs nR nN nT gg X ρ φ) (some (.int r.1), cs nR nN nT gg X ρ r.2) := by
  obtain ⟨d, rfl⟩ : ∃ e, d = e + 1 := ⟨d - 1, by omega⟩
  have hC := qC_24
  unfold sf_needed at hs
  refine qr_s hC (n := 6) (pc' := 12) (ls' := [.ref 0, .int x1]) (st' := [.int x1, .ref 30]) (h' := cs nR nN nT gg X ρ φ) rfl ?_
  obtain ⟨y1, hy, hs⟩ := qb1_s hs
  refine qr_c (j := 228) (as := [.ref 30, .int x1]) (rest := []) (v := some (.int y1)) (h1 := cs nR nN nT gg X ρ φ) hC rfl rfl qC_228 rfl rfl (se_hasKept_n F d nR nN nT gg X ρ φ x1 _ (by omega) hy) ?_
  show qm_Rn (d + 1) 24 15 [.ref 0, .int x1] [.int y1] (cs nR nN nT gg X ρ φ) _
  refine qr_ne1 (tgt := 20) hC rfl (by decide) rfl (fun hc => ?_) (fun hc => ?_)
  · rw [if_pos hc] at hs
    refine qr_s hC (n := 9) (pc' := 35) (ls' := [.ref 0, .int x1]) (st' := [.long ((-1) &&& (((1 : Int64) <<< (Int32.toInt64 x1 &&& 63)) ^^^ (-1))), .ref 30]) (h' := cs nR nN nT gg X ρ φ) rfl ?_
    obtain ⟨y2, φ1, hy, hs⟩ := qb2_s hs
    refine qr_c (j := 245) (as := [.ref 30, .long ((-1) &&& (((1 : Int64) <<< (Int32.toInt64 x1 &&& 63)) ^^^ (-1)))]) (rest := []) (v := some (.int y2)) (h1 := cs nR nN nT gg X ρ φ1) hC rfl rfl qC_245 rfl rfl (se_leftWith_n F d nR nN nT gg X ρ φ ((-1) &&& (((1 : Int64) <<< (Int32.toInt64 x1 &&& 63)) ^^^ (-1))) _ (by omega) hy) ?_
    show qm_Rn (d + 1) 24 38 [.ref 0, .int x1] [.int y2] (cs nR nN nT gg X ρ φ1) _
    refine qr_s hC (n := 3) (pc' := 45) (ls' := [.ref 0, .int x1]) (st' := [.long (-1), .ref 30, .int y2]) (h' := cs nR nN nT gg X ρ φ1) rfl ?_
    obtain ⟨y3, φ2, hy, hs⟩ := qb2_s hs
    refine qr_c (j := 245) (as := [.ref 30, .long (-1)]) (rest := [.int y2]) (v := some (.int y3)) (h1 := cs nR nN nT gg X ρ φ2) hC rfl rfl qC_245 rfl rfl (se_leftWith_n F d nR nN nT gg X ρ φ1 (-1) _ (by omega) hy) ?_
    show qm_Rn (d + 1) 24 48 [.ref 0, .int x1] [.int y3, .int y2] (cs nR nN nT gg X ρ φ2) _
    refine qr_le2 (tgt := 55) hC rfl (by decide) rfl (fun hc => ?_) (fun hc => ?_)
    · rw [if_pos hc] at hs
      refine qr_s hC (n := 1) (pc' := 56) (ls' := [.ref 0, .int x1]) (st' := [.int 0]) (h' := cs nR nN nT gg X ρ φ2) rfl ?_
      have hs := Option.some.inj hs
      subst hs
      exact qr_r hC rfl rfl
    · rw [if_neg hc] at hs
      refine qr_s hC (n := 2) (pc' := 56) (ls' := [.ref 0, .int x1]) (st' := [.int 1]) (h' := cs nR nN nT gg X ρ φ2) rfl ?_
      have hs := Option.some.inj hs
      subst hs
      exact qr_r hC rfl rfl
  · rw [if_neg hc] at hs
    refine qr_s hC (n := 1) (pc' := 19) (ls' := [.ref 0, .int x1]) (st' := [.int (-1)]) (h' := cs nR nN nT gg X ρ φ) rfl ?_
    have hs := Option.some.inj hs
    subst hs
    exact qr_r hC rfl rfl
/-- SketchFiller$Search.coreOfKept()J -/
def se_coreOfKept_L25 (F : Nat) (nR nN nT gg : Nat) : Nat → qm_F → Int32 → Int64 → Int32 → Option (Int64 × qm_F)
  | 0, _, _, _, _ => none
  | n + 1, φ, x1, x2, x4 =>
    if x4 < 0 then
      some (x2, φ)
    else
      qb2 (se_leftWith F nR nN nT gg φ (x2 &&& (((1 : Int64) <<< (Int32.toInt64 x4 &&& 63)) ^^^ (-1)))) fun y1 φ1 =>
      if ¬ y1 = x1 then
        se_coreOfKept_L25 F nR nN nT gg n φ1 x1 x2 (x4 + (-1))
      else
        se_coreOfKept_L25 F nR nN nT gg n φ1 x1 (x2 &&& (((1 : Int64) <<< (Int32.toInt64 x4 &&& 63)) ^^^ (-1))) (x4 + (-1))
def se_coreOfKept (F : Nat) (nR nN nT gg : Nat) (φ : qm_F) : Option (Int64 × qm_F) :=
  qb2 (se_leftWith F nR nN nT gg φ (-1)) fun y1 φ1 =>
  se_coreOfKept_L25 F nR nN nT gg F φ1 y1 (((1 : Int64) <<< (Int32.toInt64 (φ1 30 5) &&& 63)) - 1) ((φ1 30 5) - 1)
set_option maxRecDepth 100000 in
theorem se_coreOfKept_L25_n (F d : Nat) (nR nN nT gg : Nat) (X : List (Nat × Nat)) (ρ : Nat → Nat → Option Nat) (hd : 6 ≤ d) : ∀ (n : Nat) (φ : qm_F) (x1 : Int32) (x2 : Int64) (x4 : Int32) (r : (Int64 × qm_F)), se_coreOfKept_L25 F nR nN nT gg n φ x1 x2 x4 = some r → qm_Rn d 246 25 [.ref 30, .int x1, .long x2, .retAddr 0, .int x4, .retAddr 0, .retAddr 0] [] (cs nR nN nT gg X ρ φ) (some (.long r.1), cs nR nN nT gg X ρ r.2) := by
  obtain ⟨d, rfl⟩ : ∃ e, d = e + 1 := ⟨d - 1, by omega⟩
  have hC := qC_246
  intro n
  induction n with
  | zero => intro φ x1 x2 x4 r hs; simp [se_coreOfKept_L25] at hs
  | succ n ih =>
    intro φ x1 x2 x4 r hs
    rw [se_coreOfKept_L25] at hs
    refine qr_s hC (n := 1) (pc' := 27) (ls' := [.ref 30, .int x1, .long x2, .retAddr 0, .int x4, .retAddr 0, .retAddr 0]) (st' := [.int x4]) (h' := cs nR nN nT gg X ρ φ) rfl ?_
    refine qr_lt1 (tgt := 61) hC rfl (by decide) rfl (fun hc => ?_) (fun hc => ?_)
    · rw [if_pos hc] at hs
      refine qr_s hC (n := 1) (pc' := 62) (ls' := [.ref 30, .int x1, .long x2, .retAddr 0, .int x4, .retAddr 0, .retAddr 0]) (st' := [.long x2]) (h' := cs nR nN nT gg X ρ φ) rfl ?_
      have hs := Option.some.inj hs
      subst hs
      exact qr_r hC rfl rfl
    · rw [if_neg hc] at hs
      refine qr_s hC (n := 10) (pc' := 45) (ls' := [.ref 30, .int x1, .long x2, .retAddr 0, .int x4, .long (x2 &&& (((1 : Int64) <<< (Int32.toInt64 x4 &&& 63)) ^^^ (-1))), .retAddr 0]) (st' := [.long (x2 &&& (((1 : Int64) <<< (Int32.toInt64 x4 &&& 63)) ^^^ (-1))), .ref 30]) (h' := cs nR nN nT gg X ρ φ) rfl ?_
      obtain ⟨y1, φ1, hy, hs⟩ := qb2_s hs
      refine qr_c (j := 245) (as := [.ref 30, .long (x2 &&& (((1 : Int64) <<< (Int32.toInt64 x4 &&& 63)) ^^^ (-1)))]) (rest := []) (v := some (.int y1)) (h1 := cs nR nN nT gg X ρ φ1) hC rfl rfl qC_245 rfl rfl (se_leftWith_n F d nR nN nT gg X ρ φ (x2 &&& (((1 : Int64) <<< (Int32.toInt64 x4 &&& 63)) ^^^ (-1))) _ (by omega) hy) ?_
      show qm_Rn (d + 1) 246 48 [.ref 30, .int x1, .long x2, .retAddr 0, .int x4, .long (x2 &&& (((1 : Int64) <<< (Int32.toInt64 x4 &&& 63)) ^^^ (-1))), .retAddr 0] [.int y1] (cs nR nN nT gg X ρ φ1) _
      refine qr_s hC (n := 1) (pc' := 49) (ls' := [.ref 30, .int x1, .long x2, .retAddr 0, .int x4, .long (x2 &&& (((1 : Int64) <<< (Int32.toInt64 x4 &&& 63)) ^^^ (-1))), .retAddr 0]) (st' := [.int x1, .int y1]) (h' := cs nR nN nT gg X ρ φ1) rfl ?_
      refine qr_ne2 (tgt := 55) hC rfl (by decide) rfl (fun hc => ?_) (fun hc => ?_)
      · rw [if_pos hc] at hs
        refine qr_s hC (n := 2) (pc' := 25) (ls' := [.ref 30, .int x1, .long x2, .retAddr 0, .int (x4 + (-1)), .long (x2 &&& (((1 : Int64) <<< (Int32.toInt64 x4 &&& 63)) ^^^ (-1))), .retAddr 0]) (st' := []) (h' := cs nR nN nT gg X ρ φ1) rfl ?_
        exact qr_w (a := [.ref 30, .int x1, .long x2, .retAddr 0, .int (x4 + (-1)), .retAddr 0, .retAddr 0]) ⟨Or.inr rfl, Or.inr rfl, Or.inr rfl, Or.inr rfl, Or.inr rfl, Or.inl rfl, Or.inr rfl, trivial⟩ (ih φ1 x1 x2 (x4 + (-1)) _ hs)
      · rw [if_neg hc] at hs
        refine qr_s hC (n := 4) (pc' := 25) (ls' := [.ref 30, .int x1, .long (x2 &&& (((1 : Int64) <<< (Int32.toInt64 x4 &&& 63)) ^^^ (-1))), .retAddr 0, .int (x4 + (-1)), .long (x2 &&& (((1 : Int64) <<< (Int32.toInt64 x4 &&& 63)) ^^^ (-1))), .retAddr 0]) (st' := []) (h' := cs nR nN nT gg X ρ φ1) rfl ?_
        exact qr_w (a := [.ref 30, .int x1, .long (x2 &&& (((1 : Int64) <<< (Int32.toInt64 x4 &&& 63)) ^^^ (-1))), .retAddr 0, .int (x4 + (-1)), .retAddr 0, .retAddr 0]) ⟨Or.inr rfl, Or.inr rfl, Or.inr rfl, Or.inr rfl, Or.inr rfl, Or.inl rfl, Or.inr rfl, trivial⟩ (ih φ1 x1 (x2 &&& (((1 : Int64) <<< (Int32.toInt64 x4 &&& 63)) ^^^ (-1))) (x4 + (-1)) _ hs)
set_option maxRecDepth 100000 in
theorem se_coreOfKept_n (F d : Nat) (nR nN nT gg : Nat) (X : List (Nat × Nat)) (ρ : Nat → Nat → Option Nat) (φ : qm_F) (r : (Int64 × qm_F)) (hd : 6 ≤ d) (hs : se_coreOfKept F nR nN nT gg φ = some r) : qm_Rn d 246 0 [.ref 30, .retAddr 0, .retAddr 0, .retAddr 0, .retAddr 0, .retAddr 0, .retAddr 0] [] (cs nR nN nT gg X ρ φ) (some (.long r.1), cs nR nN nT gg X ρ r.2) := by
  obtain ⟨d, rfl⟩ : ∃ e, d = e + 1 := ⟨d - 1, by omega⟩
  have hC := qC_246
  unfold se_coreOfKept at hs
  refine qr_s hC (n := 2) (pc' := 4) (ls' := [.ref 30, .retAddr 0, .retAddr 0, .retAddr 0, .retAddr 0, .retAddr 0, .retAddr 0]) (st' := [.long (-1), .ref 30]) (h' := cs nR nN nT gg X ρ φ) rfl ?_
  obtain ⟨y1, φ1, hy, hs⟩ := qb2_s hs
  refine qr_c (j := 245) (as := [.ref 30, .long (-1)]) (rest := []) (v := some (.int y1)) (h1 := cs nR nN nT gg X ρ φ1) hC rfl rfl qC_245 rfl rfl (se_leftWith_n F d nR nN nT gg X ρ φ (-1) _ (by omega) hy) ?_
  show qm_Rn (d + 1) 246 7 [.ref 30, .retAddr 0, .retAddr 0, .retAddr 0, .retAddr 0, .retAddr 0, .retAddr 0] [.int y1] (cs nR nN nT gg X ρ φ1) _
  refine qr_s hC (n := 13) (pc' := 25) (ls' := [.ref 30, .int y1, .long (((1 : Int64) <<< (Int32.toInt64 (φ1 30 5) &&& 63)) - 1), .retAddr 0, .int ((φ1 30 5) - 1), .retAddr 0, .retAddr 0]) (st' := []) (h' := cs nR nN nT gg X ρ φ1) rfl ?_
  exact se_coreOfKept_L25_n F (d + 1) nR nN nT gg X ρ (by omega) F φ1 y1 (((1 : Int64) <<< (Int32.toInt64 (φ1 30 5) &&& 63)) - 1) ((φ1 30 5) - 1) _ hs
/-- SketchFiller$Search.keptOf(JI)I -/
def se_keptOf_L6 (F : Nat) (nR nN nT gg : Nat) : Nat → qm_F → Int64 → Int32 → Int32 → Option Int32
  | 0, _, _, _, _ => none
  | n + 1, φ, x1, x4, x5 =>
    if (φ 30 5) ≤ x5 then
      some (-1)
    else
      if 40 ≤ x5 then
        some (-1)
      else
        if ¬ (lg_cmp (((Int64.toUInt64 x1 >>> ((Int32.toInt64 x5).toUInt64 &&& Int64.toUInt64 63)).toInt64) &&& 1) 0) = 0 then
          if ¬ x4 = 0 then
            se_keptOf_L6 F nR nN nT gg n φ x1 (x4 + (-1)) (x5 + 1)
          else
            qg (qm_in x5 40) <|
            some (φ 32 x5.toNatClampNeg)
        else
          se_keptOf_L6 F nR nN nT gg n φ x1 x4 (x5 + 1)
def se_keptOf (F : Nat) (nR nN nT gg : Nat) (φ : qm_F) (x1 : Int64) (x3 : Int32) : Option Int32 :=
  se_keptOf_L6 F nR nN nT gg F φ x1 x3 0
set_option maxRecDepth 100000 in
theorem se_keptOf_L6_n (F d : Nat) (nR nN nT gg : Nat) (X : List (Nat × Nat)) (ρ : Nat → Nat → Option Nat) (hd : 0 ≤ d) : ∀ (n : Nat) (φ : qm_F) (x1 : Int64) (x4 : Int32) (x5 : Int32) (r : Int32), se_keptOf_L6 F nR nN nT gg n φ x1 x4 x5 = some r → qm_Rn d 247 6 [.ref 30, .long x1, .retAddr 0, .retAddr 0, .int x4, .int x5] [] (cs nR nN nT gg X ρ φ) (some (.int r), cs nR nN nT gg X ρ φ) := by
  have hC := qC_247
  intro n
  induction n with
  | zero => intro φ x1 x4 x5 r hs; simp [se_keptOf_L6] at hs
  | succ n ih =>
    intro φ x1 x4 x5 r hs
    rw [se_keptOf_L6] at hs
    refine qr_s hC (n := 3) (pc' := 12) (ls' := [.ref 30, .long x1, .retAddr 0, .retAddr 0, .int x4, .int x5]) (st' := [.int (φ 30 5), .int x5]) (h' := cs nR nN nT gg X ρ φ) rfl ?_
    refine qr_ge2 (tgt := 61) hC rfl (by decide) rfl (fun hc => ?_) (fun hc => ?_)
    · rw [if_pos hc] at hs
      refine qr_s hC (n := 1) (pc' := 62) (ls' := [.ref 30, .long x1, .retAddr 0, .retAddr 0, .int x4, .int x5]) (st' := [.int (-1)]) (h' := cs nR nN nT gg X ρ φ) rfl ?_
      have hs := Option.some.inj hs
      subst hs
      exact qr_r hC rfl rfl
    · rw [if_neg hc] at hs
      refine qr_s hC (n := 4) (pc' := 22) (ls' := [.ref 30, .long x1, .retAddr 0, .retAddr 0, .int x4, .int x5]) (st' := [.int 40, .int x5]) (h' := cs nR nN nT gg X ρ φ) rfl ?_
      refine qr_ge2 (tgt := 61) hC rfl (by decide) rfl (fun hc => ?_) (fun hc => ?_)
      · rw [if_pos hc] at hs
        refine qr_s hC (n := 1) (pc' := 62) (ls' := [.ref 30, .long x1, .retAddr 0, .retAddr 0, .int x4, .int x5]) (st' := [.int (-1)]) (h' := cs nR nN nT gg X ρ φ) rfl ?_
        have hs := Option.some.inj hs
        subst hs
        exact qr_r hC rfl rfl
      · rw [if_neg hc] at hs
        refine qr_s hC (n := 7) (pc' := 33) (ls' := [.ref 30, .long x1, .retAddr 0, .retAddr 0, .int x4, .int x5]) (st' := [.int (lg_cmp (((Int64.toUInt64 x1 >>> ((Int32.toInt64 x5).toUInt64 &&& Int64.toUInt64 63)).toInt64) &&& 1) 0)]) (h' := cs nR nN nT gg X ρ φ) rfl ?_
        refine qr_ne1 (tgt := 39) hC rfl (by decide) rfl (fun hc => ?_) (fun hc => ?_)
        · rw [if_pos hc] at hs
          refine qr_s hC (n := 1) (pc' := 41) (ls' := [.ref 30, .long x1, .retAddr 0, .retAddr 0, .int x4, .int x5]) (st' := [.int x4]) (h' := cs nR nN nT gg X ρ φ) rfl ?_
          refine qr_ne1 (tgt := 52) hC rfl (by decide) rfl (fun hc => ?_) (fun hc => ?_)
          · rw [if_pos hc] at hs
            refine qr_s hC (n := 3) (pc' := 6) (ls' := [.ref 30, .long x1, .retAddr 0, .retAddr 0, .int (x4 + (-1)), .int (x5 + 1)]) (st' := []) (h' := cs nR nN nT gg X ρ φ) rfl ?_
            exact ih φ x1 (x4 + (-1)) (x5 + 1) _ hs
          · rw [if_neg hc] at hs
            refine qr_s hC (n := 3) (pc' := 50) (ls' := [.ref 30, .long x1, .retAddr 0, .retAddr 0, .int x4, .int x5]) (st' := [.int x5, .ref 32]) (h' := cs nR nN nT gg X ρ φ) rfl ?_
            obtain ⟨hq, hs⟩ := qg_s hs
            refine qr_ia (v := φ 32 x5.toNatClampNeg) hC rfl rfl hq rfl ?_
            have hs := Option.some.inj hs
            subst hs
            exact qr_r hC rfl rfl
        · rw [if_neg hc] at hs
          refine qr_s hC (n := 3) (pc' := 6) (ls' := [.ref 30, .long x1, .retAddr 0, .retAddr 0, .int x4, .int (x5 + 1)]) (st' := []) (h' := cs nR nN nT gg X ρ φ) rfl ?_
          exact ih φ x1 x4 (x5 + 1) _ hs
set_option maxRecDepth 100000 in
theorem se_keptOf_n (F d : Nat) (nR nN nT gg : Nat) (X : List (Nat × Nat)) (ρ : Nat → Nat → Option Nat) (φ : qm_F) (x1 : Int64) (x3 : Int32) (r : Int32) (hd : 0 ≤ d) (hs : se_keptOf F nR nN nT gg φ x1 x3 = some r) : qm_Rn d 247 0 [.ref 30, .long x1, .retAddr 0, .int x3, .retAddr 0, .retAddr 0] [] (cs nR nN nT gg X ρ φ) (some (.int r), cs nR nN nT gg X ρ φ) := by
  have hC := qC_247
  unfold se_keptOf at hs
  refine qr_s hC (n := 4) (pc' := 6) (ls' := [.ref 30, .long x1, .retAddr 0, .int x3, .int x3, .int 0]) (st' := []) (h' := cs nR nN nT gg X ρ φ) rfl ?_
  exact qr_w (a := [.ref 30, .long x1, .retAddr 0, .retAddr 0, .int x3, .int 0]) ⟨Or.inr rfl, Or.inr rfl, Or.inr rfl, Or.inl rfl, Or.inr rfl, Or.inr rfl, trivial⟩ (se_keptOf_L6_n F d nR nN nT gg X ρ (by omega) F φ x1 x3 0 _ hs)
/-- java/lang/Long.bitCount(J)I -/
def ja_bitCount (F : Nat) (nR : Nat) (φ : qm_F) (x0 : Int64) : Option Int32 :=
  some ((Int64.toInt32 ((((((((x0 - (((Int64.toUInt64 x0 >>> ((Int32.toInt64 1).toUInt64 &&& Int64.toUInt64 63)).toInt64) &&& 6148914691236517205)) &&& 3689348814741910323) + (((Int64.toUInt64 (x0 - (((Int64.toUInt64 x0 >>> ((Int32.toInt64 1).toUInt64 &&& Int64.toUInt64 63)).toInt64) &&& 6148914691236517205)) >>> ((Int32.toInt64 2).toUInt64 &&& Int64.toUInt64 63)).toInt64) &&& 3689348814741910323)) + ((Int64.toUInt64 (((x0 - (((Int64.toUInt64 x0 >>> ((Int32.toInt64 1).toUInt64 &&& Int64.toUInt64 63)).toInt64) &&& 6148914691236517205)) &&& 3689348814741910323) + (((Int64.toUInt64 (x0 - (((Int64.toUInt64 x0 >>> ((Int32.toInt64 1).toUInt64 &&& Int64.toUInt64 63)).toInt64) &&& 6148914691236517205)) >>> ((Int32.toInt64 2).toUInt64 &&& Int64.toUInt64 63)).toInt64) &&& 3689348814741910323)) >>> ((Int32.toInt64 4).toUInt64 &&& Int64.toUInt64 63)).toInt64)) &&& 1085102592571150095) + ((Int64.toUInt64 (((((x0 - (((Int64.toUInt64 x0 >>> ((Int32.toInt64 1).toUInt64 &&& Int64.toUInt64 63)).toInt64) &&& 6148914691236517205)) &&& 3689348814741910323) + (((Int64.toUInt64 (x0 - (((Int64.toUInt64 x0 >>> ((Int32.toInt64 1).toUInt64 &&& Int64.toUInt64 63)).toInt64) &&& 6148914691236517205)) >>> ((Int32.toInt64 2).toUInt64 &&& Int64.toUInt64 63)).toInt64) &&& 3689348814741910323)) + ((Int64.toUInt64 (((x0 - (((Int64.toUInt64 x0 >>> ((Int32.toInt64 1).toUInt64 &&& Int64.toUInt64 63)).toInt64) &&& 6148914691236517205)) &&& 3689348814741910323) + (((Int64.toUInt64 (x0 - (((Int64.toUInt64 x0 >>> ((Int32.toInt64 1).toUInt64 &&& Int64.toUInt64 63)).toInt64) &&& 6148914691236517205)) >>> ((Int32.toInt64 2).toUInt64 &&& Int64.toUInt64 63)).toInt64) &&& 3689348814741910323)) >>> ((Int32.toInt64 4).toUInt64 &&& Int64.toUInt64 63)).toInt64)) &&& 1085102592571150095) >>> ((Int32.toInt64 8).toUInt64 &&& Int64.toUInt64 63)).toInt64)) + ((Int64.toUInt64 ((((((x0 - (((Int64.toUInt64 x0 >>> ((Int32.toInt64 1).toUInt64 &&& Int64.toUInt64 63)).toInt64) &&& 6148914691236517205)) &&& 3689348814741910323) + (((Int64.toUInt64 (x0 - (((Int64.toUInt64 x0 >>> ((Int32.toInt64 1).toUInt64 &&& Int64.toUInt64 63)).toInt64) &&& 6148914691236517205)) >>> ((Int32.toInt64 2).toUInt64 &&& Int64.toUInt64 63)).toInt64) &&& 3689348814741910323)) + ((Int64.toUInt64 (((x0 - (((Int64.toUInt64 x0 >>> ((Int32.toInt64 1).toUInt64 &&& Int64.toUInt64 63)).toInt64) &&& 6148914691236517205)) &&& 3689348814741910323) + (((Int64.toUInt64 (x0 - (((Int64.toUInt64 x0 >>> ((Int32.toInt64 1).toUInt64 &&& Int64.toUInt64 63)).toInt64) &&& 6148914691236517205)) >>> ((Int32.toInt64 2).toUInt64 &&& Int64.toUInt64 63)).toInt64) &&& 3689348814741910323)) >>> ((Int32.toInt64 4).toUInt64 &&& Int64.toUInt64 63)).toInt64)) &&& 1085102592571150095) + ((Int64.toUInt64 (((((x0 - (((Int64.toUInt64 x0 >>> ((Int32.toInt64 1).toUInt64 &&& Int64.toUInt64 63)).toInt64) &&& 6148914691236517205)) &&& 3689348814741910323) + (((Int64.toUInt64 (x0 - (((Int64.toUInt64 x0 >>> ((Int32.toInt64 1).toUInt64 &&& Int64.toUInt64 63)).toInt64) &&& 6148914691236517205)) >>> ((Int32.toInt64 2).toUInt64 &&& Int64.toUInt64 63)).toInt64) &&& 3689348814741910323)) + ((Int64.toUInt64 (((x0 - (((Int64.toUInt64 x0 >>> ((Int32.toInt64 1).toUInt64 &&& Int64.toUInt64 63)).toInt64) &&& 6148914691236517205)) &&& 3689348814741910323) + (((Int64.toUInt64 (x0 - (((Int64.toUInt64 x0 >>> ((Int32.toInt64 1).toUInt64 &&& Int64.toUInt64 63)).toInt64) &&& 6148914691236517205)) >>> ((Int32.toInt64 2).toUInt64 &&& Int64.toUInt64 63)).toInt64) &&& 3689348814741910323)) >>> ((Int32.toInt64 4).toUInt64 &&& Int64.toUInt64 63)).toInt64)) &&& 1085102592571150095) >>> ((Int32.toInt64 8).toUInt64 &&& Int64.toUInt64 63)).toInt64)) >>> ((Int32.toInt64 16).toUInt64 &&& Int64.toUInt64 63)).toInt64)) + ((Int64.toUInt64 (((((((x0 - (((Int64.toUInt64 x0 >>> ((Int32.toInt64 1).toUInt64 &&& Int64.toUInt64 63)).toInt64) &&& 6148914691236517205)) &&& 3689348814741910323) + (((Int64.toUInt64 (x0 - (((Int64.toUInt64 x0 >>> ((Int32.toInt64 1).toUInt64 &&& Int64.toUInt64 63)).toInt64) &&& 6148914691236517205)) >>> ((Int32.toInt64 2).toUInt64 &&& Int64.toUInt64 63)).toInt64) &&& 3689348814741910323)) + ((Int64.toUInt64 (((x0 - (((Int64.toUInt64 x0 >>> ((Int32.toInt64 1).toUInt64 &&& Int64.toUInt64 63)).toInt64) &&& 6148914691236517205)) &&& 3689348814741910323) + (((Int64.toUInt64 (x0 - (((Int64.toUInt64 x0 >>> ((Int32.toInt64 1).toUInt64 &&& Int64.toUInt64 63)).toInt64) &&& 6148914691236517205)) >>> ((Int32.toInt64 2).toUInt64 &&& Int64.toUInt64 63)).toInt64) &&& 3689348814741910323)) >>> ((Int32.toInt64 4).toUInt64 &&& Int64.toUInt64 63)).toInt64)) &&& 1085102592571150095) + ((Int64.toUInt64 (((((x0 - (((Int64.toUInt64 x0 >>> ((Int32.toInt64 1).toUInt64 &&& Int64.toUInt64 63)).toInt64) &&& 6148914691236517205)) &&& 3689348814741910323) + (((Int64.toUInt64 (x0 - (((Int64.toUInt64 x0 >>> ((Int32.toInt64 1).toUInt64 &&& Int64.toUInt64 63)).toInt64) &&& 6148914691236517205)) >>> ((Int32.toInt64 2).toUInt64 &&& Int64.toUInt64 63)).toInt64) &&& 3689348814741910323)) + ((Int64.toUInt64 (((x0 - (((Int64.toUInt64 x0 >>> ((Int32.toInt64 1).toUInt64 &&& Int64.toUInt64 63)).toInt64) &&& 6148914691236517205)) &&& 3689348814741910323) + (((Int64.toUInt64 (x0 - (((Int64.toUInt64 x0 >>> ((Int32.toInt64 1).toUInt64 &&& Int64.toUInt64 63)).toInt64) &&& 6148914691236517205)) >>> ((Int32.toInt64 2).toUInt64 &&& Int64.toUInt64 63)).toInt64) &&& 3689348814741910323)) >>> ((Int32.toInt64 4).toUInt64 &&& Int64.toUInt64 63)).toInt64)) &&& 1085102592571150095) >>> ((Int32.toInt64 8).toUInt64 &&& Int64.toUInt64 63)).toInt64)) + ((Int64.toUInt64 ((((((x0 - (((Int64.toUInt64 x0 >>> ((Int32.toInt64 1).toUInt64 &&& Int64.toUInt64 63)).toInt64) &&& 6148914691236517205)) &&& 3689348814741910323) + (((Int64.toUInt64 (x0 - (((Int64.toUInt64 x0 >>> ((Int32.toInt64 1).toUInt64 &&& Int64.toUInt64 63)).toInt64) &&& 6148914691236517205)) >>> ((Int32.toInt64 2).toUInt64 &&& Int64.toUInt64 63)).toInt64) &&& 3689348814741910323)) + ((Int64.toUInt64 (((x0 - (((Int64.toUInt64 x0 >>> ((Int32.toInt64 1).toUInt64 &&& Int64.toUInt64 63)).toInt64) &&& 6148914691236517205)) &&& 3689348814741910323) + (((Int64.toUInt64 (x0 - (((Int64.toUInt64 x0 >>> ((Int32.toInt64 1).toUInt64 &&& Int64.toUInt64 63)).toInt64) &&& 6148914691236517205)) >>> ((Int32.toInt64 2).toUInt64 &&& Int64.toUInt64 63)).toInt64) &&& 3689348814741910323)) >>> ((Int32.toInt64 4).toUInt64 &&& Int64.toUInt64 63)).toInt64)) &&& 1085102592571150095) + ((Int64.toUInt64 (((((x0 - (((Int64.toUInt64 x0 >>> ((Int32.toInt64 1).toUInt64 &&& Int64.toUInt64 63)).toInt64) &&& 6148914691236517205)) &&& 3689348814741910323) + (((Int64.toUInt64 (x0 - (((Int64.toUInt64 x0 >>> ((Int32.toInt64 1).toUInt64 &&& Int64.toUInt64 63)).toInt64) &&& 6148914691236517205)) >>> ((Int32.toInt64 2).toUInt64 &&& Int64.toUInt64 63)).toInt64) &&& 3689348814741910323)) + ((Int64.toUInt64 (((x0 - (((Int64.toUInt64 x0 >>> ((Int32.toInt64 1).toUInt64 &&& Int64.toUInt64 63)).toInt64) &&& 6148914691236517205)) &&& 3689348814741910323) + (((Int64.toUInt64 (x0 - (((Int64.toUInt64 x0 >>> ((Int32.toInt64 1).toUInt64 &&& Int64.toUInt64 63)).toInt64) &&& 6148914691236517205)) >>> ((Int32.toInt64 2).toUInt64 &&& Int64.toUInt64 63)).toInt64) &&& 3689348814741910323)) >>> ((Int32.toInt64 4).toUInt64 &&& Int64.toUInt64 63)).toInt64)) &&& 1085102592571150095) >>> ((Int32.toInt64 8).toUInt64 &&& Int64.toUInt64 63)).toInt64)) >>> ((Int32.toInt64 16).toUInt64 &&& Int64.toUInt64 63)).toInt64)) >>> ((Int32.toInt64 32).toUInt64 &&& Int64.toUInt64 63)).toInt64))) &&& 127)
set_option maxRecDepth 100000 in
theorem ja_bitCount_n (F d : Nat) (nR : Nat) (X : List (Nat × Nat)) (ρ : Nat → Nat → Option Nat) (φ : qm_F) (x0 : Int64) (r : Int32) (hd : 0 ≤ d) (hs : ja_bitCount F nR φ x0 = some r) : qm_Rn d 283 0 [.long x0, .retAddr 0] [] (c4 nR X ρ φ) (some (.int r), c4 nR X ρ φ) := by
  have hC := qC_283
  unfold ja_bitCount at hs
  refine qr_s hC (n := 48) (pc' := 60) (ls' := [.long ((((((((x0 - (((Int64.toUInt64 x0 >>> ((Int32.toInt64 1).toUInt64 &&& Int64.toUInt64 63)).toInt64) &&& 6148914691236517205)) &&& 3689348814741910323) + (((Int64.toUInt64 (x0 - (((Int64.toUInt64 x0 >>> ((Int32.toInt64 1).toUInt64 &&& Int64.toUInt64 63)).toInt64) &&& 6148914691236517205)) >>> ((Int32.toInt64 2).toUInt64 &&& Int64.toUInt64 63)).toInt64) &&& 3689348814741910323)) + ((Int64.toUInt64 (((x0 - (((Int64.toUInt64 x0 >>> ((Int32.toInt64 1).toUInt64 &&& Int64.toUInt64 63)).toInt64) &&& 6148914691236517205)) &&& 3689348814741910323) + (((Int64.toUInt64 (x0 - (((Int64.toUInt64 x0 >>> ((Int32.toInt64 1).toUInt64 &&& Int64.toUInt64 63)).toInt64) &&& 6148914691236517205)) >>> ((Int32.toInt64 2).toUInt64 &&& Int64.toUInt64 63)).toInt64) &&& 3689348814741910323)) >>> ((Int32.toInt64 4).toUInt64 &&& Int64.toUInt64 63)).toInt64)) &&& 1085102592571150095) + ((Int64.toUInt64 (((((x0 - (((Int64.toUInt64 x0 >>> ((Int32.toInt64 1).toUInt64 &&& Int64.toUInt64 63)).toInt64) &&& 6148914691236517205)) &&& 3689348814741910323) + (((Int64.toUInt64 (x0 - (((Int64.toUInt64 x0 >>> ((Int32.toInt64 1).toUInt64 &&& Int64.toUInt64 63)).toInt64) &&& 6148914691236517205)) >>> ((Int32.toInt64 2).toUInt64 &&& Int64.toUInt64 63)).toInt64) &&& 3689348814741910323)) + ((Int64.toUInt64 (((x0 - (((Int64.toUInt64 x0 >>> ((Int32.toInt64 1).toUInt64 &&& Int64.toUInt64 63)).toInt64) &&& 6148914691236517205)) &&& 3689348814741910323) + (((Int64.toUInt64 (x0 - (((Int64.toUInt64 x0 >>> ((Int32.toInt64 1).toUInt64 &&& Int64.toUInt64 63)).toInt64) &&& 6148914691236517205)) >>> ((Int32.toInt64 2).toUInt64 &&& Int64.toUInt64 63)).toInt64) &&& 3689348814741910323)) >>> ((Int32.toInt64 4).toUInt64 &&& Int64.toUInt64 63)).toInt64)) &&& 1085102592571150095) >>> ((Int32.toInt64 8).toUInt64 &&& Int64.toUInt64 63)).toInt64)) + ((Int64.toUInt64 ((((((x0 - (((Int64.toUInt64 x0 >>> ((Int32.toInt64 1).toUInt64 &&& Int64.toUInt64 63)).toInt64) &&& 6148914691236517205)) &&& 3689348814741910323) + (((Int64.toUInt64 (x0 - (((Int64.toUInt64 x0 >>> ((Int32.toInt64 1).toUInt64 &&& Int64.toUInt64 63)).toInt64) &&& 6148914691236517205)) >>> ((Int32.toInt64 2).toUInt64 &&& Int64.toUInt64 63)).toInt64) &&& 3689348814741910323)) + ((Int64.toUInt64 (((x0 - (((Int64.toUInt64 x0 >>> ((Int32.toInt64 1).toUInt64 &&& Int64.toUInt64 63)).toInt64) &&& 6148914691236517205)) &&& 3689348814741910323) + (((Int64.toUInt64 (x0 - (((Int64.toUInt64 x0 >>> ((Int32.toInt64 1).toUInt64 &&& Int64.toUInt64 63)).toInt64) &&& 6148914691236517205)) >>> ((Int32.toInt64 2).toUInt64 &&& Int64.toUInt64 63)).toInt64) &&& 3689348814741910323)) >>> ((Int32.toInt64 4).toUInt64 &&& Int64.toUInt64 63)).toInt64)) &&& 1085102592571150095) + ((Int64.toUInt64 (((((x0 - (((Int64.toUInt64 x0 >>> ((Int32.toInt64 1).toUInt64 &&& Int64.toUInt64 63)).toInt64) &&& 6148914691236517205)) &&& 3689348814741910323) + (((Int64.toUInt64 (x0 - (((Int64.toUInt64 x0 >>> ((Int32.toInt64 1).toUInt64 &&& Int64.toUInt64 63)).toInt64) &&& 6148914691236517205)) >>> ((Int32.toInt64 2).toUInt64 &&& Int64.toUInt64 63)).toInt64) &&& 3689348814741910323)) + ((Int64.toUInt64 (((x0 - (((Int64.toUInt64 x0 >>> ((Int32.toInt64 1).toUInt64 &&& Int64.toUInt64 63)).toInt64) &&& 6148914691236517205)) &&& 3689348814741910323) + (((Int64.toUInt64 (x0 - (((Int64.toUInt64 x0 >>> ((Int32.toInt64 1).toUInt64 &&& Int64.toUInt64 63)).toInt64) &&& 6148914691236517205)) >>> ((Int32.toInt64 2).toUInt64 &&& Int64.toUInt64 63)).toInt64) &&& 3689348814741910323)) >>> ((Int32.toInt64 4).toUInt64 &&& Int64.toUInt64 63)).toInt64)) &&& 1085102592571150095) >>> ((Int32.toInt64 8).toUInt64 &&& Int64.toUInt64 63)).toInt64)) >>> ((Int32.toInt64 16).toUInt64 &&& Int64.toUInt64 63)).toInt64)) + ((Int64.toUInt64 (((((((x0 - (((Int64.toUInt64 x0 >>> ((Int32.toInt64 1).toUInt64 &&& Int64.toUInt64 63)).toInt64) &&& 6148914691236517205)) &&& 3689348814741910323) + (((Int64.toUInt64 (x0 - (((Int64.toUInt64 x0 >>> ((Int32.toInt64 1).toUInt64 &&& Int64.toUInt64 63)).toInt64) &&& 6148914691236517205)) >>> ((Int32.toInt64 2).toUInt64 &&& Int64.toUInt64 63)).toInt64) &&& 3689348814741910323)) + ((Int64.toUInt64 (((x0 - (((Int64.toUInt64 x0 >>> ((Int32.toInt64 1).toUInt64 &&& Int64.toUInt64 63)).toInt64) &&& 6148914691236517205)) &&& 3689348814741910323) + (((Int64.toUInt64 (x0 - (((Int64.toUInt64 x0 >>> ((Int32.toInt64 1).toUInt64 &&& Int64.toUInt64 63)).toInt64) &&& 6148914691236517205)) >>> ((Int32.toInt64 2).toUInt64 &&& Int64.toUInt64 63)).toInt64) &&& 3689348814741910323)) >>> ((Int32.toInt64 4).toUInt64 &&& Int64.toUInt64 63)).toInt64)) &&& 1085102592571150095) + ((Int64.toUInt64 (((((x0 - (((Int64.toUInt64 x0 >>> ((Int32.toInt64 1).toUInt64 &&& Int64.toUInt64 63)).toInt64) &&& 6148914691236517205)) &&& 3689348814741910323) + (((Int64.toUInt64 (x0 - (((Int64.toUInt64 x0 >>> ((Int32.toInt64 1).toUInt64 &&& Int64.toUInt64 63)).toInt64) &&& 6148914691236517205)) >>> ((Int32.toInt64 2).toUInt64 &&& Int64.toUInt64 63)).toInt64) &&& 3689348814741910323)) + ((Int64.toUInt64 (((x0 - (((Int64.toUInt64 x0 >>> ((Int32.toInt64 1).toUInt64 &&& Int64.toUInt64 63)).toInt64) &&& 6148914691236517205)) &&& 3689348814741910323) + (((Int64.toUInt64 (x0 - (((Int64.toUInt64 x0 >>> ((Int32.toInt64 1).toUInt64 &&& Int64.toUInt64 63)).toInt64) &&& 6148914691236517205)) >>> ((Int32.toInt64 2).toUInt64 &&& Int64.toUInt64 63)).toInt64) &&& 3689348814741910323)) >>> ((Int32.toInt64 4).toUInt64 &&& Int64.toUInt64 63)).toInt64)) &&& 1085102592571150095) >>> ((Int32.toInt64 8).toUInt64 &&& Int64.toUInt64 63)).toInt64)) + ((Int64.toUInt64 ((((((x0 - (((Int64.toUInt64 x0 >>> ((Int32.toInt64 1).toUInt64 &&& Int64.toUInt64 63)).toInt64) &&& 6148914691236517205)) &&& 3689348814741910323) + (((Int64.toUInt64 (x0 - (((Int64.toUInt64 x0 >>> ((Int32.toInt64 1).toUInt64 &&& Int64.toUInt64 63)).toInt64) &&& 6148914691236517205)) >>> ((Int32.toInt64 2).toUInt64 &&& Int64.toUInt64 63)).toInt64) &&& 3689348814741910323)) + ((Int64.toUInt64 (((x0 - (((Int64.toUInt64 x0 >>> ((Int32.toInt64 1).toUInt64 &&& Int64.toUInt64 63)).toInt64) &&& 6148914691236517205)) &&& 3689348814741910323) + (((Int64.toUInt64 (x0 - (((Int64.toUInt64 x0 >>> ((Int32.toInt64 1).toUInt64 &&& Int64.toUInt64 63)).toInt64) &&& 6148914691236517205)) >>> ((Int32.toInt64 2).toUInt64 &&& Int64.toUInt64 63)).toInt64) &&& 3689348814741910323)) >>> ((Int32.toInt64 4).toUInt64 &&& Int64.toUInt64 63)).toInt64)) &&& 1085102592571150095) + ((Int64.toUInt64 (((((x0 - (((Int64.toUInt64 x0 >>> ((Int32.toInt64 1).toUInt64 &&& Int64.toUInt64 63)).toInt64) &&& 6148914691236517205)) &&& 3689348814741910323) + (((Int64.toUInt64 (x0 - (((Int64.toUInt64 x0 >>> ((Int32.toInt64 1).toUInt64 &&& Int64.toUInt64 63)).toInt64) &&& 6148914691236517205)) >>> ((Int32.toInt64 2).toUInt64 &&& Int64.toUInt64 63)).toInt64) &&& 3689348814741910323)) + ((Int64.toUInt64 (((x0 - (((Int64.toUInt64 x0 >>> ((Int32.toInt64 1).toUInt64 &&& Int64.toUInt64 63)).toInt64) &&& 6148914691236517205)) &&& 3689348814741910323) + (((Int64.toUInt64 (x0 - (((Int64.toUInt64 x0 >>> ((Int32.toInt64 1).toUInt64 &&& Int64.toUInt64 63)).toInt64) &&& 6148914691236517205)) >>> ((Int32.toInt64 2).toUInt64 &&& Int64.toUInt64 63)).toInt64) &&& 3689348814741910323)) >>> ((Int32.toInt64 4).toUInt64 &&& Int64.toUInt64 63)).toInt64)) &&& 1085102592571150095) >>> ((Int32.toInt64 8).toUInt64 &&& Int64.toUInt64 63)).toInt64)) >>> ((Int32.toInt64 16).toUInt64 &&& Int64.toUInt64 63)).toInt64)) >>> ((Int32.toInt64 32).toUInt64 &&& Int64.toUInt64 63)).toInt64)), .retAddr 0]) (st' := [.int ((Int64.toInt32 ((((((((x0 - (((Int64.toUInt64 x0 >>> ((Int32.toInt64 1).toUInt64 &&& Int64.toUInt64 63)).toInt64) &&& 6148914691236517205)) &&& 3689348814741910323) + (((Int64.toUInt64 (x0 - (((Int64.toUInt64 x0 >>> ((Int32.toInt64 1).toUInt64 &&& Int64.toUInt64 63)).toInt64) &&& 6148914691236517205)) >>> ((Int32.toInt64 2).toUInt64 &&& Int64.toUInt64 63)).toInt64) &&& 3689348814741910323)) + ((Int64.toUInt64 (((x0 - (((Int64.toUInt64 x0 >>> ((Int32.toInt64 1).toUInt64 &&& Int64.toUInt64 63)).toInt64) &&& 6148914691236517205)) &&& 3689348814741910323) + (((Int64.toUInt64 (x0 - (((Int64.toUInt64 x0 >>> ((Int32.toInt64 1).toUInt64 &&& Int64.toUInt64 63)).toInt64) &&& 6148914691236517205)) >>> ((Int32.toInt64 2).toUInt64 &&& Int64.toUInt64 63)).toInt64) &&& 3689348814741910323)) >>> ((Int32.toInt64 4).toUInt64 &&& Int64.toUInt64 63)).toInt64)) &&& 1085102592571150095) + ((Int64.toUInt64 (((((x0 - (((Int64.toUInt64 x0 >>> ((Int32.toInt64 1).toUInt64 &&& Int64.toUInt64 63)).toInt64) &&& 6148914691236517205)) &&& 3689348814741910323) + (((Int64.toUInt64 (x0 - (((Int64.toUInt64 x0 >>> ((Int32.toInt64 1).toUInt64 &&& Int64.toUInt64 63)).toInt64) &&& 6148914691236517205)) >>> ((Int32.toInt64 2).toUInt64 &&& Int64.toUInt64 63)).toInt64) &&& 3689348814741910323)) + ((Int64.toUInt64 (((x0 - (((Int64.toUInt64 x0 >>> ((Int32.toInt64 1).toUInt64 &&& Int64.toUInt64 63)).toInt64) &&& 6148914691236517205)) &&& 3689348814741910323) + (((Int64.toUInt64 (x0 - (((Int64.toUInt64 x0 >>> ((Int32.toInt64 1).toUInt64 &&& Int64.toUInt64 63)).toInt64) &&& 6148914691236517205)) >>> ((Int32.toInt64 2).toUInt64 &&& Int64.toUInt64 63)).toInt64) &&& 3689348814741910323)) >>> ((Int32.toInt64 4).toUInt64 &&& Int64.toUInt64 63)).toInt64)) &&& 1085102592571150095) >>> ((Int32.toInt64 8).toUInt64 &&& Int64.toUInt64 63)).toInt64)) + ((Int64.toUInt64 ((((((x0 - (((Int64.toUInt64 x0 >>> ((Int32.toInt64 1).toUInt64 &&& Int64.toUInt64 63)).toInt64) &&& 6148914691236517205)) &&& 3689348814741910323) + (((Int64.toUInt64 (x0 - (((Int64.toUInt64 x0 >>> ((Int32.toInt64 1).toUInt64 &&& Int64.toUInt64 63)).toInt64) &&& 6148914691236517205)) >>> ((Int32.toInt64 2).toUInt64 &&& Int64.toUInt64 63)).toInt64) &&& 3689348814741910323)) + ((Int64.toUInt64 (((x0 - (((Int64.toUInt64 x0 >>> ((Int32.toInt64 1).toUInt64 &&& Int64.toUInt64 63)).toInt64) &&& 6148914691236517205)) &&& 3689348814741910323) + (((Int64.toUInt64 (x0 - (((Int64.toUInt64 x0 >>> ((Int32.toInt64 1).toUInt64 &&& Int64.toUInt64 63)).toInt64) &&& 6148914691236517205)) >>> ((Int32.toInt64 2).toUInt64 &&& Int64.toUInt64 63)).toInt64) &&& 3689348814741910323)) >>> ((Int32.toInt64 4).toUInt64 &&& Int64.toUInt64 63)).toInt64)) &&& 1085102592571150095) + ((Int64.toUInt64 (((((x0 - (((Int64.toUInt64 x0 >>> ((Int32.toInt64 1).toUInt64 &&& Int64.toUInt64 63)).toInt64) &&& 6148914691236517205)) &&& 3689348814741910323) + (((Int64.toUInt64 (x0 - (((Int64.toUInt64 x0 >>> ((Int32.toInt64 1).toUInt64 &&& Int64.toUInt64 63)).toInt64) &&& 6148914691236517205)) >>> ((Int32.toInt64 2).toUInt64 &&& Int64.toUInt64 63)).toInt64) &&& 3689348814741910323)) + ((Int64.toUInt64 (((x0 - (((Int64.toUInt64 x0 >>> ((Int32.toInt64 1).toUInt64 &&& Int64.toUInt64 63)).toInt64) &&& 6148914691236517205)) &&& 3689348814741910323) + (((Int64.toUInt64 (x0 - (((Int64.toUInt64 x0 >>> ((Int32.toInt64 1).toUInt64 &&& Int64.toUInt64 63)).toInt64) &&& 6148914691236517205)) >>> ((Int32.toInt64 2).toUInt64 &&& Int64.toUInt64 63)).toInt64) &&& 3689348814741910323)) >>> ((Int32.toInt64 4).toUInt64 &&& Int64.toUInt64 63)).toInt64)) &&& 1085102592571150095) >>> ((Int32.toInt64 8).toUInt64 &&& Int64.toUInt64 63)).toInt64)) >>> ((Int32.toInt64 16).toUInt64 &&& Int64.toUInt64 63)).toInt64)) + ((Int64.toUInt64 (((((((x0 - (((Int64.toUInt64 x0 >>> ((Int32.toInt64 1).toUInt64 &&& Int64.toUInt64 63)).toInt64) &&& 6148914691236517205)) &&& 3689348814741910323) + (((Int64.toUInt64 (x0 - (((Int64.toUInt64 x0 >>> ((Int32.toInt64 1).toUInt64 &&& Int64.toUInt64 63)).toInt64) &&& 6148914691236517205)) >>> ((Int32.toInt64 2).toUInt64 &&& Int64.toUInt64 63)).toInt64) &&& 3689348814741910323)) + ((Int64.toUInt64 (((x0 - (((Int64.toUInt64 x0 >>> ((Int32.toInt64 1).toUInt64 &&& Int64.toUInt64 63)).toInt64) &&& 6148914691236517205)) &&& 3689348814741910323) + (((Int64.toUInt64 (x0 - (((Int64.toUInt64 x0 >>> ((Int32.toInt64 1).toUInt64 &&& Int64.toUInt64 63)).toInt64) &&& 6148914691236517205)) >>> ((Int32.toInt64 2).toUInt64 &&& Int64.toUInt64 63)).toInt64) &&& 3689348814741910323)) >>> ((Int32.toInt64 4).toUInt64 &&& Int64.toUInt64 63)).toInt64)) &&& 1085102592571150095) + ((Int64.toUInt64 (((((x0 - (((Int64.toUInt64 x0 >>> ((Int32.toInt64 1).toUInt64 &&& Int64.toUInt64 63)).toInt64) &&& 6148914691236517205)) &&& 3689348814741910323) + (((Int64.toUInt64 (x0 - (((Int64.toUInt64 x0 >>> ((Int32.toInt64 1).toUInt64 &&& Int64.toUInt64 63)).toInt64) &&& 6148914691236517205)) >>> ((Int32.toInt64 2).toUInt64 &&& Int64.toUInt64 63)).toInt64) &&& 3689348814741910323)) + ((Int64.toUInt64 (((x0 - (((Int64.toUInt64 x0 >>> ((Int32.toInt64 1).toUInt64 &&& Int64.toUInt64 63)).toInt64) &&& 6148914691236517205)) &&& 3689348814741910323) + (((Int64.toUInt64 (x0 - (((Int64.toUInt64 x0 >>> ((Int32.toInt64 1).toUInt64 &&& Int64.toUInt64 63)).toInt64) &&& 6148914691236517205)) >>> ((Int32.toInt64 2).toUInt64 &&& Int64.toUInt64 63)).toInt64) &&& 3689348814741910323)) >>> ((Int32.toInt64 4).toUInt64 &&& Int64.toUInt64 63)).toInt64)) &&& 1085102592571150095) >>> ((Int32.toInt64 8).toUInt64 &&& Int64.toUInt64 63)).toInt64)) + ((Int64.toUInt64 ((((((x0 - (((Int64.toUInt64 x0 >>> ((Int32.toInt64 1).toUInt64 &&& Int64.toUInt64 63)).toInt64) &&& 6148914691236517205)) &&& 3689348814741910323) + (((Int64.toUInt64 (x0 - (((Int64.toUInt64 x0 >>> ((Int32.toInt64 1).toUInt64 &&& Int64.toUInt64 63)).toInt64) &&& 6148914691236517205)) >>> ((Int32.toInt64 2).toUInt64 &&& Int64.toUInt64 63)).toInt64) &&& 3689348814741910323)) + ((Int64.toUInt64 (((x0 - (((Int64.toUInt64 x0 >>> ((Int32.toInt64 1).toUInt64 &&& Int64.toUInt64 63)).toInt64) &&& 6148914691236517205)) &&& 3689348814741910323) + (((Int64.toUInt64 (x0 - (((Int64.toUInt64 x0 >>> ((Int32.toInt64 1).toUInt64 &&& Int64.toUInt64 63)).toInt64) &&& 6148914691236517205)) >>> ((Int32.toInt64 2).toUInt64 &&& Int64.toUInt64 63)).toInt64) &&& 3689348814741910323)) >>> ((Int32.toInt64 4).toUInt64 &&& Int64.toUInt64 63)).toInt64)) &&& 1085102592571150095) + ((Int64.toUInt64 (((((x0 - (((Int64.toUInt64 x0 >>> ((Int32.toInt64 1).toUInt64 &&& Int64.toUInt64 63)).toInt64) &&& 6148914691236517205)) &&& 3689348814741910323) + (((Int64.toUInt64 (x0 - (((Int64.toUInt64 x0 >>> ((Int32.toInt64 1).toUInt64 &&& Int64.toUInt64 63)).toInt64) &&& 6148914691236517205)) >>> ((Int32.toInt64 2).toUInt64 &&& Int64.toUInt64 63)).toInt64) &&& 3689348814741910323)) + ((Int64.toUInt64 (((x0 - (((Int64.toUInt64 x0 >>> ((Int32.toInt64 1).toUInt64 &&& Int64.toUInt64 63)).toInt64) &&& 6148914691236517205)) &&& 3689348814741910323) + (((Int64.toUInt64 (x0 - (((Int64.toUInt64 x0 >>> ((Int32.toInt64 1).toUInt64 &&& Int64.toUInt64 63)).toInt64) &&& 6148914691236517205)) >>> ((Int32.toInt64 2).toUInt64 &&& Int64.toUInt64 63)).toInt64) &&& 3689348814741910323)) >>> ((Int32.toInt64 4).toUInt64 &&& Int64.toUInt64 63)).toInt64)) &&& 1085102592571150095) >>> ((Int32.toInt64 8).toUInt64 &&& Int64.toUInt64 63)).toInt64)) >>> ((Int32.toInt64 16).toUInt64 &&& Int64.toUInt64 63)).toInt64)) >>> ((Int32.toInt64 32).toUInt64 &&& Int64.toUInt64 63)).toInt64))) &&& 127)]) (h' := c4 nR X ρ φ) rfl ?_
  have hs := Option.some.inj hs
  subst hs
  exact qr_r hC rfl rfl
/-- SketchFiller.core(I)I -/
def sf_core (F : Nat) (nR nN nT gg : Nat) (φ : qm_F) (x1 : Int32) : Option (Int32 × qm_F) :=
  if (-1) ≤ x1 then
    qb2 (se_coreOfKept F nR nN nT gg φ) fun y1 φ1 =>
    if ¬ x1 = (-1) then
      qb1 (se_keptOf F nR nN nT gg φ1 y1 x1) fun y2 =>
      some (y2, φ1)
    else
      qb1 (ja_bitCount F nR φ1 y1) fun y3 =>
      some (y3, φ1)
  else
    some ((-1), φ)
set_option maxRecDepth 100000 in
theorem sf_core_n (F d : Nat) (nR nN nT gg : Nat) (X : List (Nat × Nat)) (ρ : Nat → Nat → Option Nat) (φ : qm_F) (x1 : Int32) (r : (Int32 × qm_F)) (hd : 7 ≤ d) (hs : sf_core F nR nN nT gg φ x1 = some r) : qm_Rn d 25 0 [.ref 0, .int x1, .retAddr 0, .retAddr 0] [] (cs nR nN nT gg X ρ φ) (some (.int r.1), cs nR nN nT gg X ρ r.2) := by
  obtain ⟨d, rfl⟩ : ∃ e, d = e + 1 := ⟨d - 1, by omega⟩
  have hC := qC_25
  unfold sf_core at hs
  refine qr_s hC (n := 5) (pc' := 9) (ls' := [.ref 0, .int x1, .retAddr 0, .retAddr 0]) (st' := [.int (-1), .int x1]) (h' := cs nR nN nT gg X ρ φ) rfl ?_
  refine qr_ge2 (tgt := 14) hC rfl (by decide) rfl (fun hc => ?_) (fun hc => ?_)
  · rw [if_pos hc] at hs
    refine qr_s hC (n := 2) (pc' := 18) (ls' := [.ref 0, .int x1, .retAddr 0, .retAddr 0]) (st' := [.ref 30]) (h' := cs nR nN nT gg X ρ φ) rfl ?_
    obtain ⟨y1, φ1, hy, hs⟩ := qb2_s hs
    refine qr_c (j := 246) (as := [.ref 30]) (rest := []) (v := some (.long y1)) (h1 := cs nR nN nT gg X ρ φ1) hC rfl rfl qC_246 rfl rfl (se_coreOfKept_n F d nR nN nT gg X ρ φ _ (by omega) hy) ?_
    show qm_Rn (d + 1) 25 21 [.ref 0, .int x1, .retAddr 0, .retAddr 0] [.long y1] (cs nR nN nT gg X ρ φ1) _
    refine qr_s hC (n := 3) (pc' := 24) (ls' := [.ref 0, .int x1, .long y1, .retAddr 0]) (st' := [.int (-1), .int x1]) (h' := cs nR nN nT gg X ρ φ1) rfl ?_
    refine qr_ne2 (tgt := 34) hC rfl (by decide) rfl (fun hc => ?_) (fun hc => ?_)
    · rw [if_pos hc] at hs
      refine qr_s hC (n := 4) (pc' := 40) (ls' := [.ref 0, .int x1, .long y1, .retAddr 0]) (st' := [.int x1, .long y1, .ref 30]) (h' := cs nR nN nT gg X ρ φ1) rfl ?_
      obtain ⟨y2, hy, hs⟩ := qb1_s hs
      refine qr_c (j := 247) (as := [.ref 30, .long y1, .int x1]) (rest := []) (v := some (.int y2)) (h1 := cs nR nN nT gg X ρ φ1) hC rfl rfl qC_247 rfl rfl (se_keptOf_n F d nR nN nT gg X ρ φ1 y1 x1 _ (by omega) hy) ?_
      show qm_Rn (d + 1) 25 43 [.ref 0, .int x1, .long y1, .retAddr 0] [.int y2] (cs nR nN nT gg X ρ φ1) _
      have hs := Option.some.inj hs
      subst hs
      exact qr_r hC rfl rfl
    · rw [if_neg hc] at hs
      refine qr_s hC (n := 1) (pc' := 28) (ls' := [.ref 0, .int x1, .long y1, .retAddr 0]) (st' := [.long y1]) (h' := cs nR nN nT gg X ρ φ1) rfl ?_
      obtain ⟨y3, hy, hs⟩ := qb1_s hs
      refine qr_c (j := 283) (as := [.long y1]) (rest := []) (v := some (.int y3)) (h1 := cs nR nN nT gg X ρ φ1) hC rfl rfl qC_283 rfl rfl (ja_bitCount_n F d nR (ct_X nN (cw_X nT (cr_X gg (cs_X gg X)))) (ct_R (cw_R (cr_R (cs_R ρ)))) φ1 y1 _ (by omega) hy) ?_
      show qm_Rn (d + 1) 25 31 [.ref 0, .int x1, .long y1, .retAddr 0] [.int y3] (cs nR nN nT gg X ρ φ1) _
      refine qr_s hC (n := 1) (pc' := 43) (ls' := [.ref 0, .int x1, .long y1, .retAddr 0]) (st' := [.int y3]) (h' := cs nR nN nT gg X ρ φ1) rfl ?_
      have hs := Option.some.inj hs
      subst hs
      exact qr_r hC rfl rfl
  · rw [if_neg hc] at hs
    refine qr_s hC (n := 1) (pc' := 13) (ls' := [.ref 0, .int x1, .retAddr 0, .retAddr 0]) (st' := [.int (-1)]) (h' := cs nR nN nT gg X ρ φ) rfl ?_
    have hs := Option.some.inj hs
    subst hs
    exact qr_r hC rfl rfl
/-- SketchFiller$Verdicts.areAlike(II)Z -/
def ve_areAlike_L2 (F : Nat) (nR nN nT gg : Nat) : Nat → qm_F → Int32 → Int32 → Int32 → Option (Int32 × qm_F)
  | 0, _, _, _, _ => none
  | n + 1, φ, x1, x2, x3 =>
    if (φ 25 1) ≤ x3 then
      some (1, φ)
    else
      qb2 (ve_verdictOf F nR nN nT gg φ x1 x3) fun y1 φ1 =>
      qb2 (ve_verdictOf F nR nN nT gg φ1 x2 x3) fun y2 φ2 =>
      if y1 = y2 then
        ve_areAlike_L2 F nR nN nT gg n φ2 x1 x2 (x3 + 1)
      else
        some (0, φ2)
def ve_areAlike (F : Nat) (nR nN nT gg : Nat) (φ : qm_F) (x1 : Int32) (x2 : Int32) : Option (Int32 × qm_F) :=
  ve_areAlike_L2 F nR nN nT gg F φ x1 x2 0
set_option maxRecDepth 100000 in
theorem ve_areAlike_L2_n (F d : Nat) (nR nN nT gg : Nat) (X : List (Nat × Nat)) (ρ : Nat → Nat → Option Nat) (hd : 4 ≤ d) : ∀ (n : Nat) (φ : qm_F) (x1 : Int32) (x2 : Int32) (x3 : Int32) (r : (Int32 × qm_F)), ve_areAlike_L2 F nR nN nT gg n φ x1 x2 x3 = some r → qm_Rn d 280 2 [.ref 25, .int x1, .int x2, .int x3] [] (cs nR nN nT gg X ρ φ) (some (.int r.1), cs nR nN nT gg X ρ r.2) := by
  obtain ⟨d, rfl⟩ : ∃ e, d = e + 1 := ⟨d - 1, by omega⟩
  have hC := qC_280
  intro n
  induction n with
  | zero => intro φ x1 x2 x3 r hs; simp [ve_areAlike_L2] at hs
  | succ n ih =>
    intro φ x1 x2 x3 r hs
    rw [ve_areAlike_L2] at hs
    refine qr_s hC (n := 3) (pc' := 7) (ls' := [.ref 25, .int x1, .int x2, .int x3]) (st' := [.int (φ 25 1), .int x3]) (h' := cs nR nN nT gg X ρ φ) rfl ?_
    refine qr_ge2 (tgt := 33) hC rfl (by decide) rfl (fun hc => ?_) (fun hc => ?_)
    · rw [if_pos hc] at hs
      refine qr_s hC (n := 1) (pc' := 34) (ls' := [.ref 25, .int x1, .int x2, .int x3]) (st' := [.int 1]) (h' := cs nR nN nT gg X ρ φ) rfl ?_
      have hs := Option.some.inj hs
      subst hs
      exact qr_r hC rfl rfl
    · rw [if_neg hc] at hs
      refine qr_s hC (n := 3) (pc' := 13) (ls' := [.ref 25, .int x1, .int x2, .int x3]) (st' := [.int x3, .int x1, .ref 25]) (h' := cs nR nN nT gg X ρ φ) rfl ?_
      obtain ⟨y1, φ1, hy, hs⟩ := qb2_s hs
      refine qr_c (j := 276) (as := [.ref 25, .int x1, .int x3]) (rest := []) (v := some (.int y1)) (h1 := cs nR nN nT gg X ρ φ1) hC rfl rfl qC_276 rfl rfl (ve_verdictOf_n F d nR nN nT gg X ρ φ x1 x3 _ (by omega) hy) ?_
      show qm_Rn (d + 1) 280 16 [.ref 25, .int x1, .int x2, .int x3] [.int y1] (cs nR nN nT gg X ρ φ1) _
      refine qr_s hC (n := 3) (pc' := 19) (ls' := [.ref 25, .int x1, .int x2, .int x3]) (st' := [.int x3, .int x2, .ref 25, .int y1]) (h' := cs nR nN nT gg X ρ φ1) rfl ?_
      obtain ⟨y2, φ2, hy, hs⟩ := qb2_s hs
      refine qr_c (j := 276) (as := [.ref 25, .int x2, .int x3]) (rest := [.int y1]) (v := some (.int y2)) (h1 := cs nR nN nT gg X ρ φ2) hC rfl rfl qC_276 rfl rfl (ve_verdictOf_n F d nR nN nT gg X ρ φ1 x2 x3 _ (by omega) hy) ?_
      show qm_Rn (d + 1) 280 22 [.ref 25, .int x1, .int x2, .int x3] [.int y2, .int y1] (cs nR nN nT gg X ρ φ2) _
      refine qr_eq2 (tgt := 27) hC rfl (by decide) rfl (fun hc => ?_) (fun hc => ?_)
      · rw [if_pos hc] at hs
        refine qr_s hC (n := 2) (pc' := 2) (ls' := [.ref 25, .int x1, .int x2, .int (x3 + 1)]) (st' := []) (h' := cs nR nN nT gg X ρ φ2) rfl ?_
        exact ih φ2 x1 x2 (x3 + 1) _ hs
      · rw [if_neg hc] at hs
        refine qr_s hC (n := 1) (pc' := 26) (ls' := [.ref 25, .int x1, .int x2, .int x3]) (st' := [.int 0]) (h' := cs nR nN nT gg X ρ φ2) rfl ?_
        have hs := Option.some.inj hs
        subst hs
        exact qr_r hC rfl rfl
set_option maxRecDepth 100000 in
theorem ve_areAlike_n (F d : Nat) (nR nN nT gg : Nat) (X : List (Nat × Nat)) (ρ : Nat → Nat → Option Nat) (φ : qm_F) (x1 : Int32) (x2 : Int32) (r : (Int32 × qm_F)) (hd : 4 ≤ d) (hs : ve_areAlike F nR nN nT gg φ x1 x2 = some r) : qm_Rn d 280 0 [.ref 25, .int x1, .int x2, .retAddr 0] [] (cs nR nN nT gg X ρ φ) (some (.int r.1), cs nR nN nT gg X ρ r.2) := by
  obtain ⟨d, rfl⟩ : ∃ e, d = e + 1 := ⟨d - 1, by omega⟩
  have hC := qC_280
  unfold ve_areAlike at hs
  refine qr_s hC (n := 2) (pc' := 2) (ls' := [.ref 25, .int x1, .int x2, .int 0]) (st' := []) (h' := cs nR nN nT gg X ρ φ) rfl ?_
  exact ve_areAlike_L2_n F (d + 1) nR nN nT gg X ρ (by omega) F φ x1 x2 0 _ hs
/-- SketchFiller$Search.isLikeEarlier(I)Z -/
def se_isLikeEarlier_L2 (F : Nat) (nR nN nT gg : Nat) : Nat → qm_F → Int32 → Int32 → Option (Int32 × qm_F)
  | 0, _, _, _ => none
  | n + 1, φ, x1, x2 =>
    if x1 ≤ x2 then
      some (0, φ)
    else
      qg (decide (gg < 2147483648)) <|
      if (Int32.ofNat gg) ≤ x2 then
        some (0, φ)
      else
        qg (qm_in x2 gg) <|
        if (φ 33 x2.toNatClampNeg) = 0 then
          se_isLikeEarlier_L2 F nR nN nT gg n φ x1 (x2 + 1)
        else
          qb2 (ve_areAlike F nR nN nT gg φ x1 x2) fun y1 φ1 =>
          if y1 = 0 then
            se_isLikeEarlier_L2 F nR nN nT gg n φ1 x1 (x2 + 1)
          else
            some (1, φ1)
def se_isLikeEarlier (F : Nat) (nR nN nT gg : Nat) (φ : qm_F) (x1 : Int32) : Option (Int32 × qm_F) :=
  se_isLikeEarlier_L2 F nR nN nT gg F φ x1 0
set_option maxRecDepth 100000 in
theorem se_isLikeEarlier_L2_n (F d : Nat) (nR nN nT gg : Nat) (X : List (Nat × Nat)) (ρ : Nat → Nat → Option Nat) (hd : 5 ≤ d) : ∀ (n : Nat) (φ : qm_F) (x1 : Int32) (x2 : Int32) (r : (Int32 × qm_F)), se_isLikeEarlier_L2 F nR nN nT gg n φ x1 x2 = some r → qm_Rn d 249 2 [.ref 30, .int x1, .int x2] [] (cs nR nN nT gg X ρ φ) (some (.int r.1), cs nR nN nT gg X ρ r.2) := by
  obtain ⟨d, rfl⟩ : ∃ e, d = e + 1 := ⟨d - 1, by omega⟩
  have hC := qC_249
  intro n
  induction n with
  | zero => intro φ x1 x2 r hs; simp [se_isLikeEarlier_L2] at hs
  | succ n ih =>
    intro φ x1 x2 r hs
    rw [se_isLikeEarlier_L2] at hs
    refine qr_s hC (n := 2) (pc' := 4) (ls' := [.ref 30, .int x1, .int x2]) (st' := [.int x1, .int x2]) (h' := cs nR nN nT gg X ρ φ) rfl ?_
    refine qr_ge2 (tgt := 45) hC rfl (by decide) rfl (fun hc => ?_) (fun hc => ?_)
    · rw [if_pos hc] at hs
      refine qr_s hC (n := 1) (pc' := 46) (ls' := [.ref 30, .int x1, .int x2]) (st' := [.int 0]) (h' := cs nR nN nT gg X ρ φ) rfl ?_
      have hs := Option.some.inj hs
      subst hs
      exact qr_r hC rfl rfl
    · rw [if_neg hc] at hs
      refine qr_s hC (n := 3) (pc' := 12) (ls' := [.ref 30, .int x1, .int x2]) (st' := [.ref 33, .int x2]) (h' := cs nR nN nT gg X ρ φ) rfl ?_
      obtain ⟨hq, hs⟩ := qg_s hs
      refine qr_al hC rfl rfl hq ?_
      refine qr_ge2 (tgt := 45) hC rfl (by decide) rfl (fun hc => ?_) (fun hc => ?_)
      · rw [if_pos hc] at hs
        refine qr_s hC (n := 1) (pc' := 46) (ls' := [.ref 30, .int x1, .int x2]) (st' := [.int 0]) (h' := cs nR nN nT gg X ρ φ) rfl ?_
        have hs := Option.some.inj hs
        subst hs
        exact qr_r hC rfl rfl
      · rw [if_neg hc] at hs
        refine qr_s hC (n := 3) (pc' := 21) (ls' := [.ref 30, .int x1, .int x2]) (st' := [.int x2, .ref 33]) (h' := cs nR nN nT gg X ρ φ) rfl ?_
        obtain ⟨hq, hs⟩ := qg_s hs
        refine qr_za (v := φ 33 x2.toNatClampNeg) hC rfl rfl hq rfl ?_
        refine qr_eq1 (tgt := 39) hC rfl (by decide) rfl (fun hc => ?_) (fun hc => ?_)
        · rw [if_pos hc] at hs
          refine qr_s hC (n := 2) (pc' := 2) (ls' := [.ref 30, .int x1, .int (x2 + 1)]) (st' := []) (h' := cs nR nN nT gg X ρ φ) rfl ?_
          exact ih φ x1 (x2 + 1) _ hs
        · rw [if_neg hc] at hs
          refine qr_s hC (n := 4) (pc' := 31) (ls' := [.ref 30, .int x1, .int x2]) (st' := [.int x2, .int x1, .ref 25]) (h' := cs nR nN nT gg X ρ φ) rfl ?_
          obtain ⟨y1, φ1, hy, hs⟩ := qb2_s hs
          refine qr_c (j := 280) (as := [.ref 25, .int x1, .int x2]) (rest := []) (v := some (.int y1)) (h1 := cs nR nN nT gg X ρ φ1) hC rfl rfl qC_280 rfl rfl (ve_areAlike_n F d nR nN nT gg X ρ φ x1 x2 _ (by omega) hy) ?_
          show qm_Rn (d + 1) 249 34 [.ref 30, .int x1, .int x2] [.int y1] (cs nR nN nT gg X ρ φ1) _
          refine qr_eq1 (tgt := 39) hC rfl (by decide) rfl (fun hc => ?_) (fun hc => ?_)
          · rw [if_pos hc] at hs
            refine qr_s hC (n := 2) (pc' := 2) (ls' := [.ref 30, .int x1, .int (x2 + 1)]) (st' := []) (h' := cs nR nN nT gg X ρ φ1) rfl ?_
            exact ih φ1 x1 (x2 + 1) _ hs
          · rw [if_neg hc] at hs
            refine qr_s hC (n := 1) (pc' := 38) (ls' := [.ref 30, .int x1, .int x2]) (st' := [.int 1]) (h' := cs nR nN nT gg X ρ φ1) rfl ?_
            have hs := Option.some.inj hs
            subst hs
            exact qr_r hC rfl rfl
set_option maxRecDepth 100000 in
theorem se_isLikeEarlier_n (F d : Nat) (nR nN nT gg : Nat) (X : List (Nat × Nat)) (ρ : Nat → Nat → Option Nat) (φ : qm_F) (x1 : Int32) (r : (Int32 × qm_F)) (hd : 5 ≤ d) (hs : se_isLikeEarlier F nR nN nT gg φ x1 = some r) : qm_Rn d 249 0 [.ref 30, .int x1, .retAddr 0] [] (cs nR nN nT gg X ρ φ) (some (.int r.1), cs nR nN nT gg X ρ r.2) := by
  obtain ⟨d, rfl⟩ : ∃ e, d = e + 1 := ⟨d - 1, by omega⟩
  have hC := qC_249
  unfold se_isLikeEarlier at hs
  refine qr_s hC (n := 2) (pc' := 2) (ls' := [.ref 30, .int x1, .int 0]) (st' := []) (h' := cs nR nN nT gg X ρ φ) rfl ?_
  exact se_isLikeEarlier_L2_n F (d + 1) nR nN nT gg X ρ (by omega) F φ x1 0 _ hs
/-- SketchFiller$Search.unlikeLeft()I -/
def se_unlikeLeft_L4 (F : Nat) (nR nN nT gg : Nat) : Nat → qm_F → Int32 → Int32 → Option (Int32 × qm_F)
  | 0, _, _, _ => none
  | n + 1, φ, x1, x2 =>
    qg (decide (gg < 2147483648)) <|
    if (Int32.ofNat gg) ≤ x2 then
      some (x1, φ)
    else
      qg (qm_in x2 gg) <|
      if (φ 33 x2.toNatClampNeg) = 0 then
        se_unlikeLeft_L4 F nR nN nT gg n φ x1 (x2 + 1)
      else
        qb2 (se_isLikeEarlier F nR nN nT gg φ x2) fun y1 φ1 =>
        if ¬ y1 = 0 then
          se_unlikeLeft_L4 F nR nN nT gg n φ1 x1 (x2 + 1)
        else
          se_unlikeLeft_L4 F nR nN nT gg n φ1 (x1 + 1) (x2 + 1)
def se_unlikeLeft (F : Nat) (nR nN nT gg : Nat) (φ : qm_F) : Option (Int32 × qm_F) :=
  se_unlikeLeft_L4 F nR nN nT gg F φ 0 0
set_option maxRecDepth 100000 in
theorem se_unlikeLeft_L4_n (F d : Nat) (nR nN nT gg : Nat) (X : List (Nat × Nat)) (ρ : Nat → Nat → Option Nat) (hd : 6 ≤ d) : ∀ (n : Nat) (φ : qm_F) (x1 : Int32) (x2 : Int32) (r : (Int32 × qm_F)), se_unlikeLeft_L4 F nR nN nT gg n φ x1 x2 = some r → qm_Rn d 248 4 [.ref 30, .int x1, .int x2] [] (cs nR nN nT gg X ρ φ) (some (.int r.1), cs nR nN nT gg X ρ r.2) := by
  obtain ⟨d, rfl⟩ : ∃ e, d = e + 1 := ⟨d - 1, by omega⟩
  have hC := qC_248
  intro n
  induction n with
  | zero => intro φ x1 x2 r hs; simp [se_unlikeLeft_L4] at hs
  | succ n ih =>
    intro φ x1 x2 r hs
    rw [se_unlikeLeft_L4] at hs
    refine qr_s hC (n := 3) (pc' := 9) (ls' := [.ref 30, .int x1, .int x2]) (st' := [.ref 33, .int x2]) (h' := cs nR nN nT gg X ρ φ) rfl ?_
    obtain ⟨hq, hs⟩ := qg_s hs
    refine qr_al hC rfl rfl hq ?_
    refine qr_ge2 (tgt := 39) hC rfl (by decide) rfl (fun hc => ?_) (fun hc => ?_)
    · rw [if_pos hc] at hs
      refine qr_s hC (n := 1) (pc' := 40) (ls' := [.ref 30, .int x1, .int x2]) (st' := [.int x1]) (h' := cs nR nN nT gg X ρ φ) rfl ?_
      have hs := Option.some.inj hs
      subst hs
      exact qr_r hC rfl rfl
    · rw [if_neg hc] at hs
      refine qr_s hC (n := 3) (pc' := 18) (ls' := [.ref 30, .int x1, .int x2]) (st' := [.int x2, .ref 33]) (h' := cs nR nN nT gg X ρ φ) rfl ?_
      obtain ⟨hq, hs⟩ := qg_s hs
      refine qr_za (v := φ 33 x2.toNatClampNeg) hC rfl rfl hq rfl ?_
      refine qr_eq1 (tgt := 33) hC rfl (by decide) rfl (fun hc => ?_) (fun hc => ?_)
      · rw [if_pos hc] at hs
        refine qr_s hC (n := 2) (pc' := 4) (ls' := [.ref 30, .int x1, .int (x2 + 1)]) (st' := []) (h' := cs nR nN nT gg X ρ φ) rfl ?_
        exact ih φ x1 (x2 + 1) _ hs
      · rw [if_neg hc] at hs
        refine qr_s hC (n := 2) (pc' := 24) (ls' := [.ref 30, .int x1, .int x2]) (st' := [.int x2, .ref 30]) (h' := cs nR nN nT gg X ρ φ) rfl ?_
        obtain ⟨y1, φ1, hy, hs⟩ := qb2_s hs
        refine qr_c (j := 249) (as := [.ref 30, .int x2]) (rest := []) (v := some (.int y1)) (h1 := cs nR nN nT gg X ρ φ1) hC rfl rfl qC_249 rfl rfl (se_isLikeEarlier_n F d nR nN nT gg X ρ φ x2 _ (by omega) hy) ?_
        show qm_Rn (d + 1) 248 27 [.ref 30, .int x1, .int x2] [.int y1] (cs nR nN nT gg X ρ φ1) _
        refine qr_ne1 (tgt := 33) hC rfl (by decide) rfl (fun hc => ?_) (fun hc => ?_)
        · rw [if_pos hc] at hs
          refine qr_s hC (n := 2) (pc' := 4) (ls' := [.ref 30, .int x1, .int (x2 + 1)]) (st' := []) (h' := cs nR nN nT gg X ρ φ1) rfl ?_
          exact ih φ1 x1 (x2 + 1) _ hs
        · rw [if_neg hc] at hs
          refine qr_s hC (n := 3) (pc' := 4) (ls' := [.ref 30, .int (x1 + 1), .int (x2 + 1)]) (st' := []) (h' := cs nR nN nT gg X ρ φ1) rfl ?_
          exact ih φ1 (x1 + 1) (x2 + 1) _ hs
set_option maxRecDepth 100000 in
theorem se_unlikeLeft_n (F d : Nat) (nR nN nT gg : Nat) (X : List (Nat × Nat)) (ρ : Nat → Nat → Option Nat) (φ : qm_F) (r : (Int32 × qm_F)) (hd : 6 ≤ d) (hs : se_unlikeLeft F nR nN nT gg φ = some r) : qm_Rn d 248 0 [.ref 30, .retAddr 0, .retAddr 0] [] (cs nR nN nT gg X ρ φ) (some (.int r.1), cs nR nN nT gg X ρ r.2) := by
  obtain ⟨d, rfl⟩ : ∃ e, d = e + 1 := ⟨d - 1, by omega⟩
  have hC := qC_248
  unfold se_unlikeLeft at hs
  refine qr_s hC (n := 4) (pc' := 4) (ls' := [.ref 30, .int 0, .int 0]) (st' := []) (h' := cs nR nN nT gg X ρ φ) rfl ?_
  exact se_unlikeLeft_L4_n F (d + 1) nR nN nT gg X ρ (by omega) F φ 0 0 _ hs
/-- SketchFiller.kinds()I -/
def sf_kinds (F : Nat) (nR nN nT gg : Nat) (φ : qm_F) : Option (Int32 × qm_F) :=
  qb1 (se_markLeft F nR nN nT gg φ) fun φ1 =>
  qb2 (se_unlikeLeft F nR nN nT gg φ1) fun y1 φ2 =>
  some (y1, φ2)
set_option maxRecDepth 100000 in
theorem sf_kinds_n (F d : Nat) (nR nN nT gg : Nat) (X : List (Nat × Nat)) (ρ : Nat → Nat → Option Nat) (φ : qm_F) (r : (Int32 × qm_F)) (hd : 7 ≤ d) (hs : sf_kinds F nR nN nT gg φ = some r) : qm_Rn d 26 0 [.ref 0] [] (cs nR nN nT gg X ρ φ) (some (.int r.1), cs nR nN nT gg X ρ r.2) := by
  obtain ⟨d, rfl⟩ : ∃ e, d = e + 1 := ⟨d - 1, by omega⟩
  have hC := qC_26
  unfold sf_kinds at hs
  refine qr_s hC (n := 5) (pc' := 13) (ls' := [.ref 0]) (st' := [.ref 30]) (h' := cs nR nN nT gg X ρ φ) rfl ?_
  obtain ⟨φ1, hy, hs⟩ := qb1_s hs
  refine qr_c (j := 242) (as := [.ref 30]) (rest := []) (v := none) (h1 := cs nR nN nT gg X ρ φ1) hC rfl rfl qC_242 rfl rfl (se_markLeft_n F d nR nN nT gg X ρ φ _ (by omega) hy) ?_
  show qm_Rn (d + 1) 26 16 [.ref 0] [] (cs nR nN nT gg X ρ φ1) _
  refine qr_s hC (n := 2) (pc' := 20) (ls' := [.ref 0]) (st' := [.ref 30]) (h' := cs nR nN nT gg X ρ φ1) rfl ?_
  obtain ⟨y1, φ2, hy, hs⟩ := qb2_s hs
  refine qr_c (j := 248) (as := [.ref 30]) (rest := []) (v := some (.int y1)) (h1 := cs nR nN nT gg X ρ φ2) hC rfl rfl qC_248 rfl rfl (se_unlikeLeft_n F d nR nN nT gg X ρ φ1 _ (by omega) hy) ?_
  show qm_Rn (d + 1) 26 23 [.ref 0] [.int y1] (cs nR nN nT gg X ρ φ2) _
  have hs := Option.some.inj hs
  subst hs
  exact qr_r hC rfl rfl
/-- SketchFiller.alike(II)Z -/
def sf_alike (F : Nat) (nR nN nT gg : Nat) (φ : qm_F) (x1 : Int32) (x2 : Int32) : Option (Int32 × qm_F) :=
  qb1 (pr_hasGuess F nR nN nT φ x1) fun y1 =>
  if y1 = 0 then
    some (0, φ)
  else
    qb1 (pr_hasGuess F nR nN nT φ x2) fun y2 =>
    if ¬ y2 = 0 then
      qb2 (ve_areAlike F nR nN nT gg φ x1 x2) fun y3 φ1 =>
      qg (qm_bz y3) (some (y3, φ1))
    else
      some (0, φ)
set_option maxRecDepth 100000 in
theorem sf_alike_n (F d : Nat) (nR nN nT gg : Nat) (X : List (Nat × Nat)) (ρ : Nat → Nat → Option Nat) (φ : qm_F) (x1 : Int32) (x2 : Int32) (r : (Int32 × qm_F)) (hd : 5 ≤ d) (hs : sf_alike F nR nN nT gg φ x1 x2 = some r) : qm_Rn d 27 0 [.ref 0, .int x1, .int x2] [] (cs nR nN nT gg X ρ φ) (some (.int r.1), cs nR nN nT gg X ρ r.2) := by
  obtain ⟨d, rfl⟩ : ∃ e, d = e + 1 := ⟨d - 1, by omega⟩
  have hC := qC_27
  unfold sf_alike at hs
  refine qr_s hC (n := 7) (pc' := 15) (ls' := [.ref 0, .int x1, .int x2]) (st' := [.int x1, .ref 14]) (h' := cs nR nN nT gg X ρ φ) rfl ?_
  obtain ⟨y1, hy, hs⟩ := qb1_s hs
  refine qr_c (j := 204) (as := [.ref 14, .int x1]) (rest := []) (v := some (.int y1)) (h1 := cs nR nN nT gg X ρ φ) hC rfl rfl qC_204 rfl rfl (pr_hasGuess_n F d nR nN nT (cr_X gg (cs_X gg X)) (cr_R (cs_R ρ)) φ x1 _ (by omega) hy) ?_
  show qm_Rn (d + 1) 27 18 [.ref 0, .int x1, .int x2] [.int y1] (cs nR nN nT gg X ρ φ) _
  refine qr_eq1 (tgt := 35) hC rfl (by decide) rfl (fun hc => ?_) (fun hc => ?_)
  · rw [if_pos hc] at hs
    refine qr_s hC (n := 1) (pc' := 36) (ls' := [.ref 0, .int x1, .int x2]) (st' := [.int 0]) (h' := cs nR nN nT gg X ρ φ) rfl ?_
    have hs := Option.some.inj hs
    subst hs
    exact qr_r hC rfl rfl
  · rw [if_neg hc] at hs
    refine qr_s hC (n := 4) (pc' := 29) (ls' := [.ref 0, .int x1, .int x2]) (st' := [.int x2, .ref 14]) (h' := cs nR nN nT gg X ρ φ) rfl ?_
    obtain ⟨y2, hy, hs⟩ := qb1_s hs
    refine qr_c (j := 204) (as := [.ref 14, .int x2]) (rest := []) (v := some (.int y2)) (h1 := cs nR nN nT gg X ρ φ) hC rfl rfl qC_204 rfl rfl (pr_hasGuess_n F d nR nN nT (cr_X gg (cs_X gg X)) (cr_R (cs_R ρ)) φ x2 _ (by omega) hy) ?_
    show qm_Rn (d + 1) 27 32 [.ref 0, .int x1, .int x2] [.int y2] (cs nR nN nT gg X ρ φ) _
    refine qr_ne1 (tgt := 37) hC rfl (by decide) rfl (fun hc => ?_) (fun hc => ?_)
    · rw [if_pos hc] at hs
      refine qr_s hC (n := 5) (pc' := 46) (ls' := [.ref 0, .int x1, .int x2]) (st' := [.int x2, .int x1, .ref 25]) (h' := cs nR nN nT gg X ρ φ) rfl ?_
      obtain ⟨y3, φ1, hy, hs⟩ := qb2_s hs
      refine qr_c (j := 280) (as := [.ref 25, .int x1, .int x2]) (rest := []) (v := some (.int y3)) (h1 := cs nR nN nT gg X ρ φ1) hC rfl rfl qC_280 rfl rfl (ve_areAlike_n F d nR nN nT gg X ρ φ x1 x2 _ (by omega) hy) ?_
      show qm_Rn (d + 1) 27 49 [.ref 0, .int x1, .int x2] [.int y3] (cs nR nN nT gg X ρ φ1) _
      obtain ⟨hz, hs⟩ := qg_s hs
      have hs := Option.some.inj hs
      subst hs
      exact qr_rz hC rfl hz
    · rw [if_neg hc] at hs
      refine qr_s hC (n := 1) (pc' := 36) (ls' := [.ref 0, .int x1, .int x2]) (st' := [.int 0]) (h' := cs nR nN nT gg X ρ φ) rfl ?_
      have hs := Option.some.inj hs
      subst hs
      exact qr_r hC rfl rfl
/-- SketchFiller$Tokens.count()I -/
def to_count (F : Nat) (nR nN : Nat) (φ : qm_F) : Option Int32 :=
  some (φ 4 5)
set_option maxRecDepth 100000 in
theorem to_count_n (F d : Nat) (nR nN : Nat) (X : List (Nat × Nat)) (ρ : Nat → Nat → Option Nat) (φ : qm_F) (r : Int32) (hd : 0 ≤ d) (hs : to_count F nR nN φ = some r) : qm_Rn d 264 0 [.ref 4] [] (ct nR nN X ρ φ) (some (.int r), ct nR nN X ρ φ) := by
  have hC := qC_264
  unfold to_count at hs
  refine qr_s hC (n := 2) (pc' := 4) (ls' := [.ref 4]) (st' := [.int (φ 4 5)]) (h' := ct nR nN X ρ φ) rfl ?_
  have hs := Option.some.inj hs
  subst hs
  exact qr_r hC rfl rfl
/-- SketchFiller$Program.shownEnd()I -/
def pr_shownEnd (F : Nat) (nR nN nT : Nat) (φ : qm_F) : Option Int32 :=
  qb1 (to_count F nR nN φ) fun y1 =>
  some (y1 - 1)
set_option maxRecDepth 100000 in
theorem pr_shownEnd_n (F d : Nat) (nR nN nT : Nat) (X : List (Nat × Nat)) (ρ : Nat → Nat → Option Nat) (φ : qm_F) (r : Int32) (hd : 1 ≤ d) (hs : pr_shownEnd F nR nN nT φ = some r) : qm_Rn d 214 0 [.ref 14] [] (cw nR nN nT X ρ φ) (some (.int r), cw nR nN nT X ρ φ) := by
  obtain ⟨d, rfl⟩ : ∃ e, d = e + 1 := ⟨d - 1, by omega⟩
  have hC := qC_214
  unfold pr_shownEnd at hs
  refine qr_s hC (n := 2) (pc' := 4) (ls' := [.ref 14]) (st' := [.ref 4]) (h' := cw nR nN nT X ρ φ) rfl ?_
  obtain ⟨y1, hy, hs⟩ := qb1_s hs
  refine qr_c (j := 264) (as := [.ref 4]) (rest := []) (v := some (.int y1)) (h1 := cw nR nN nT X ρ φ) hC rfl rfl qC_264 rfl rfl (to_count_n F d nR nN (cw_X nT X) (cw_R ρ) φ _ (by omega) hy) ?_
  show qm_Rn (d + 1) 214 7 [.ref 14] [.int y1] (cw nR nN nT X ρ φ) _
  refine qr_s hC (n := 2) (pc' := 9) (ls' := [.ref 14]) (st' := [.int (y1 - 1)]) (h' := cw nR nN nT X ρ φ) rfl ?_
  have hs := Option.some.inj hs
  subst hs
  exact qr_r hC rfl rfl
/-- SketchFiller$Tokens.kindOf(I)I -/
def to_kindOf (F : Nat) (nR nN : Nat) (φ : qm_F) (x1 : Int32) : Option Int32 :=
  if x1 < 0 then
    some 0
  else
    if (φ 4 5) ≤ x1 then
      some 0
    else
      qg (qm_in x1 (nN + 1)) <|
      some (φ 6 x1.toNatClampNeg)
set_option maxRecDepth 100000 in
theorem to_kindOf_n (F d : Nat) (nR nN : Nat) (X : List (Nat × Nat)) (ρ : Nat → Nat → Option Nat) (φ : qm_F) (x1 : Int32) (r : Int32) (hd : 0 ≤ d) (hs : to_kindOf F nR nN φ x1 = some r) : qm_Rn d 265 0 [.ref 4, .int x1] [] (ct nR nN X ρ φ) (some (.int r), ct nR nN X ρ φ) := by
  have hC := qC_265
  unfold to_kindOf at hs
  refine qr_s hC (n := 1) (pc' := 1) (ls' := [.ref 4, .int x1]) (st' := [.int x1]) (h' := ct nR nN X ρ φ) rfl ?_
  refine qr_lt1 (tgt := 21) hC rfl (by decide) rfl (fun hc => ?_) (fun hc => ?_)
  · rw [if_pos hc] at hs
    refine qr_s hC (n := 1) (pc' := 22) (ls' := [.ref 4, .int x1]) (st' := [.int 0]) (h' := ct nR nN X ρ φ) rfl ?_
    have hs := Option.some.inj hs
    subst hs
    exact qr_r hC rfl rfl
  · rw [if_neg hc] at hs
    refine qr_s hC (n := 3) (pc' := 9) (ls' := [.ref 4, .int x1]) (st' := [.int (φ 4 5), .int x1]) (h' := ct nR nN X ρ φ) rfl ?_
    refine qr_ge2 (tgt := 21) hC rfl (by decide) rfl (fun hc => ?_) (fun hc => ?_)
    · rw [if_pos hc] at hs
      refine qr_s hC (n := 1) (pc' := 22) (ls' := [.ref 4, .int x1]) (st' := [.int 0]) (h' := ct nR nN X ρ φ) rfl ?_
      have hs := Option.some.inj hs
      subst hs
      exact qr_r hC rfl rfl
    · rw [if_neg hc] at hs
      refine qr_s hC (n := 3) (pc' := 17) (ls' := [.ref 4, .int x1]) (st' := [.int x1, .ref 6]) (h' := ct nR nN X ρ φ) rfl ?_
      obtain ⟨hq, hs⟩ := qg_s hs
      refine qr_ia (v := φ 6 x1.toNatClampNeg) hC rfl rfl hq rfl ?_
      refine qr_s hC (n := 1) (pc' := 22) (ls' := [.ref 4, .int x1]) (st' := [.int (φ 6 x1.toNatClampNeg)]) (h' := ct nR nN X ρ φ) rfl ?_
      have hs := Option.some.inj hs
      subst hs
      exact qr_r hC rfl rfl
/-- SketchFiller$Program.isShownAsNumber(I)Z -/
def pr_isShownAsNumber (F : Nat) (nR nN nT : Nat) (φ : qm_F) (x1 : Int32) : Option Int32 :=
  qb1 (to_kindOf F nR nN φ x1) fun y1 =>
  if y1 = 48 then
    some 1
  else
    qb1 (to_kindOf F nR nN φ x1) fun y2 =>
    if ¬ y2 = 2 then
      some 0
    else
      some 1
set_option maxRecDepth 100000 in
theorem pr_isShownAsNumber_n (F d : Nat) (nR nN nT : Nat) (X : List (Nat × Nat)) (ρ : Nat → Nat → Option Nat) (φ : qm_F) (x1 : Int32) (r : Int32) (hd : 1 ≤ d) (hs : pr_isShownAsNumber F nR nN nT φ x1 = some r) : qm_Rn d 217 0 [.ref 14, .int x1] [] (cw nR nN nT X ρ φ) (some (.int r), cw nR nN nT X ρ φ) := by
  obtain ⟨d, rfl⟩ : ∃ e, d = e + 1 := ⟨d - 1, by omega⟩
  have hC := qC_217
  unfold pr_isShownAsNumber at hs
  refine qr_s hC (n := 3) (pc' := 5) (ls' := [.ref 14, .int x1]) (st' := [.int x1, .ref 4]) (h' := cw nR nN nT X ρ φ) rfl ?_
  obtain ⟨y1, hy, hs⟩ := qb1_s hs
  refine qr_c (j := 265) (as := [.ref 4, .int x1]) (rest := []) (v := some (.int y1)) (h1 := cw nR nN nT X ρ φ) hC rfl rfl qC_265 rfl rfl (to_kindOf_n F d nR nN (cw_X nT X) (cw_R ρ) φ x1 _ (by omega) hy) ?_
  show qm_Rn (d + 1) 217 8 [.ref 14, .int x1] [.int y1] (cw nR nN nT X ρ φ) _
  refine qr_s hC (n := 1) (pc' := 10) (ls' := [.ref 14, .int x1]) (st' := [.int 48, .int y1]) (h' := cw nR nN nT X ρ φ) rfl ?_
  refine qr_eq2 (tgt := 25) hC rfl (by decide) rfl (fun hc => ?_) (fun hc => ?_)
  · rw [if_pos hc] at hs
    refine qr_s hC (n := 2) (pc' := 30) (ls' := [.ref 14, .int x1]) (st' := [.int 1]) (h' := cw nR nN nT X ρ φ) rfl ?_
    have hs := Option.some.inj hs
    subst hs
    exact qr_r hC rfl rfl
  · rw [if_neg hc] at hs
    refine qr_s hC (n := 3) (pc' := 18) (ls' := [.ref 14, .int x1]) (st' := [.int x1, .ref 4]) (h' := cw nR nN nT X ρ φ) rfl ?_
    obtain ⟨y2, hy, hs⟩ := qb1_s hs
    refine qr_c (j := 265) (as := [.ref 4, .int x1]) (rest := []) (v := some (.int y2)) (h1 := cw nR nN nT X ρ φ) hC rfl rfl qC_265 rfl rfl (to_kindOf_n F d nR nN (cw_X nT X) (cw_R ρ) φ x1 _ (by omega) hy) ?_
    show qm_Rn (d + 1) 217 21 [.ref 14, .int x1] [.int y2] (cw nR nN nT X ρ φ) _
    refine qr_s hC (n := 1) (pc' := 22) (ls' := [.ref 14, .int x1]) (st' := [.int 2, .int y2]) (h' := cw nR nN nT X ρ φ) rfl ?_
    refine qr_ne2 (tgt := 29) hC rfl (by decide) rfl (fun hc => ?_) (fun hc => ?_)
    · rw [if_pos hc] at hs
      refine qr_s hC (n := 1) (pc' := 30) (ls' := [.ref 14, .int x1]) (st' := [.int 0]) (h' := cw nR nN nT X ρ φ) rfl ?_
      have hs := Option.some.inj hs
      subst hs
      exact qr_r hC rfl rfl
    · rw [if_neg hc] at hs
      refine qr_s hC (n := 2) (pc' := 30) (ls' := [.ref 14, .int x1]) (st' := [.int 1]) (h' := cw nR nN nT X ρ φ) rfl ?_
      have hs := Option.some.inj hs
      subst hs
      exact qr_r hC rfl rfl
/-- SketchFiller$Tokens.numberOf(I)I -/
def to_numberOf (F : Nat) (nR nN : Nat) (φ : qm_F) (x1 : Int32) : Option Int32 :=
  if x1 < 0 then
    some 0
  else
    if (φ 4 5) ≤ x1 then
      some 0
    else
      qg (qm_in x1 (nN + 1)) <|
      some (φ 9 x1.toNatClampNeg)
set_option maxRecDepth 100000 in
theorem to_numberOf_n (F d : Nat) (nR nN : Nat) (X : List (Nat × Nat)) (ρ : Nat → Nat → Option Nat) (φ : qm_F) (x1 : Int32) (r : Int32) (hd : 0 ≤ d) (hs : to_numberOf F nR nN φ x1 = some r) : qm_Rn d 267 0 [.ref 4, .int x1] [] (ct nR nN X ρ φ) (some (.int r), ct nR nN X ρ φ) := by
  have hC := qC_267
  unfold to_numberOf at hs
  refine qr_s hC (n := 1) (pc' := 1) (ls' := [.ref 4, .int x1]) (st' := [.int x1]) (h' := ct nR nN X ρ φ) rfl ?_
  refine qr_lt1 (tgt := 21) hC rfl (by decide) rfl (fun hc => ?_) (fun hc => ?_)
  · rw [if_pos hc] at hs
    refine qr_s hC (n := 1) (pc' := 22) (ls' := [.ref 4, .int x1]) (st' := [.int 0]) (h' := ct nR nN X ρ φ) rfl ?_
    have hs := Option.some.inj hs
    subst hs
    exact qr_r hC rfl rfl
  · rw [if_neg hc] at hs
    refine qr_s hC (n := 3) (pc' := 9) (ls' := [.ref 4, .int x1]) (st' := [.int (φ 4 5), .int x1]) (h' := ct nR nN X ρ φ) rfl ?_
    refine qr_ge2 (tgt := 21) hC rfl (by decide) rfl (fun hc => ?_) (fun hc => ?_)
    · rw [if_pos hc] at hs
      refine qr_s hC (n := 1) (pc' := 22) (ls' := [.ref 4, .int x1]) (st' := [.int 0]) (h' := ct nR nN X ρ φ) rfl ?_
      have hs := Option.some.inj hs
      subst hs
      exact qr_r hC rfl rfl
    · rw [if_neg hc] at hs
      refine qr_s hC (n := 3) (pc' := 17) (ls' := [.ref 4, .int x1]) (st' := [.int x1, .ref 9]) (h' := ct nR nN X ρ φ) rfl ?_
      obtain ⟨hq, hs⟩ := qg_s hs
      refine qr_ia (v := φ 9 x1.toNatClampNeg) hC rfl rfl hq rfl ?_
      refine qr_s hC (n := 1) (pc' := 22) (ls' := [.ref 4, .int x1]) (st' := [.int (φ 9 x1.toNatClampNeg)]) (h' := ct nR nN X ρ φ) rfl ?_
      have hs := Option.some.inj hs
      subst hs
      exact qr_r hC rfl rfl
/-- SketchFiller$Program.shownNumber(II)I -/
def pr_shownNumber (F : Nat) (nR nN nT : Nat) (φ : qm_F) (x1 : Int32) (x2 : Int32) : Option Int32 :=
  qb1 (to_numberOf F nR nN φ x2) fun y1 =>
  qb1 (to_kindOf F nR nN φ x2) fun y2 =>
  if ¬ y2 = 2 then
    some y1
  else
    qb1 (pr_valueOf F nR nN nT φ x1 y1) fun y3 =>
    some y3
set_option maxRecDepth 100000 in
theorem pr_shownNumber_n (F d : Nat) (nR nN nT : Nat) (X : List (Nat × Nat)) (ρ : Nat → Nat → Option Nat) (φ : qm_F) (x1 : Int32) (x2 : Int32) (r : Int32) (hd : 2 ≤ d) (hs : pr_shownNumber F nR nN nT φ x1 x2 = some r) : qm_Rn d 218 0 [.ref 14, .int x1, .int x2, .retAddr 0] [] (cw nR nN nT X ρ φ) (some (.int r), cw nR nN nT X ρ φ) := by
  obtain ⟨d, rfl⟩ : ∃ e, d = e + 1 := ⟨d - 1, by omega⟩
  have hC := qC_218
  unfold pr_shownNumber at hs
  refine qr_s hC (n := 3) (pc' := 5) (ls' := [.ref 14, .int x1, .int x2, .retAddr 0]) (st' := [.int x2, .ref 4]) (h' := cw nR nN nT X ρ φ) rfl ?_
  obtain ⟨y1, hy, hs⟩ := qb1_s hs
  refine qr_c (j := 267) (as := [.ref 4, .int x2]) (rest := []) (v := some (.int y1)) (h1 := cw nR nN nT X ρ φ) hC rfl rfl qC_267 rfl rfl (to_numberOf_n F d nR nN (cw_X nT X) (cw_R ρ) φ x2 _ (by omega) hy) ?_
  show qm_Rn (d + 1) 218 8 [.ref 14, .int x1, .int x2, .retAddr 0] [.int y1] (cw nR nN nT X ρ φ) _
  refine qr_s hC (n := 4) (pc' := 14) (ls' := [.ref 14, .int x1, .int x2, .int y1]) (st' := [.int x2, .ref 4]) (h' := cw nR nN nT X ρ φ) rfl ?_
  obtain ⟨y2, hy, hs⟩ := qb1_s hs
  refine qr_c (j := 265) (as := [.ref 4, .int x2]) (rest := []) (v := some (.int y2)) (h1 := cw nR nN nT X ρ φ) hC rfl rfl qC_265 rfl rfl (to_kindOf_n F d nR nN (cw_X nT X) (cw_R ρ) φ x2 _ (by omega) hy) ?_
  show qm_Rn (d + 1) 218 17 [.ref 14, .int x1, .int x2, .int y1] [.int y2] (cw nR nN nT X ρ φ) _
  refine qr_s hC (n := 1) (pc' := 18) (ls' := [.ref 14, .int x1, .int x2, .int y1]) (st' := [.int 2, .int y2]) (h' := cw nR nN nT X ρ φ) rfl ?_
  refine qr_ne2 (tgt := 30) hC rfl (by decide) rfl (fun hc => ?_) (fun hc => ?_)
  · rw [if_pos hc] at hs
    refine qr_s hC (n := 1) (pc' := 31) (ls' := [.ref 14, .int x1, .int x2, .int y1]) (st' := [.int y1]) (h' := cw nR nN nT X ρ φ) rfl ?_
    have hs := Option.some.inj hs
    subst hs
    exact qr_r hC rfl rfl
  · rw [if_neg hc] at hs
    refine qr_s hC (n := 3) (pc' := 24) (ls' := [.ref 14, .int x1, .int x2, .int y1]) (st' := [.int y1, .int x1, .ref 14]) (h' := cw nR nN nT X ρ φ) rfl ?_
    obtain ⟨y3, hy, hs⟩ := qb1_s hs
    refine qr_c (j := 208) (as := [.ref 14, .int x1, .int y1]) (rest := []) (v := some (.int y3)) (h1 := cw nR nN nT X ρ φ) hC rfl rfl qC_208 rfl rfl (pr_valueOf_n F d nR nN nT X ρ φ x1 y1 _ (by omega) hy) ?_
    show qm_Rn (d + 1) 218 27 [.ref 14, .int x1, .int x2, .int y1] [.int y3] (cw nR nN nT X ρ φ) _
    refine qr_s hC (n := 1) (pc' := 31) (ls' := [.ref 14, .int x1, .int x2, .int y1]) (st' := [.int y3]) (h' := cw nR nN nT X ρ φ) rfl ?_
    have hs := Option.some.inj hs
    subst hs
    exact qr_r hC rfl rfl
/-- SketchFiller$Program.digitsOf(I)I -/
def pr_digitsOf_L4 (F : Nat) (nR nN nT : Nat) : Nat → qm_F → Int32 → Int32 → Option Int32
  | 0, _, _, _ => none
  | n + 1, φ, x1, x2 =>
    if 5 ≤ x1 then
      some x1
    else
      if x2 ≤ 9 then
        some x1
      else
        pr_digitsOf_L4 F nR nN nT n φ (x1 + 1) (x2 / 10)
def pr_digitsOf (F : Nat) (nR nN nT : Nat) (φ : qm_F) (x0 : Int32) : Option Int32 :=
  pr_digitsOf_L4 F nR nN nT F φ 1 x0
set_option maxRecDepth 100000 in
theorem pr_digitsOf_L4_n (F d : Nat) (nR nN nT : Nat) (X : List (Nat × Nat)) (ρ : Nat → Nat → Option Nat) (hd : 0 ≤ d) : ∀ (n : Nat) (φ : qm_F) (x1 : Int32) (x2 : Int32) (r : Int32), pr_digitsOf_L4 F nR nN nT n φ x1 x2 = some r → qm_Rn d 221 4 [.retAddr 0, .int x1, .int x2] [] (cw nR nN nT X ρ φ) (some (.int r), cw nR nN nT X ρ φ) := by
  have hC := qC_221
  intro n
  induction n with
  | zero => intro φ x1 x2 r hs; simp [pr_digitsOf_L4] at hs
  | succ n ih =>
    intro φ x1 x2 r hs
    rw [pr_digitsOf_L4] at hs
    refine qr_s hC (n := 2) (pc' := 6) (ls' := [.retAddr 0, .int x1, .int x2]) (st' := [.int 5, .int x1]) (h' := cw nR nN nT X ρ φ) rfl ?_
    refine qr_ge2 (tgt := 26) hC rfl (by decide) rfl (fun hc => ?_) (fun hc => ?_)
    · rw [if_pos hc] at hs
      refine qr_s hC (n := 1) (pc' := 27) (ls' := [.retAddr 0, .int x1, .int x2]) (st' := [.int x1]) (h' := cw nR nN nT X ρ φ) rfl ?_
      have hs := Option.some.inj hs
      subst hs
      exact qr_r hC rfl rfl
    · rw [if_neg hc] at hs
      refine qr_s hC (n := 2) (pc' := 12) (ls' := [.retAddr 0, .int x1, .int x2]) (st' := [.int 9, .int x2]) (h' := cw nR nN nT X ρ φ) rfl ?_
      refine qr_le2 (tgt := 26) hC rfl (by decide) rfl (fun hc => ?_) (fun hc => ?_)
      · rw [if_pos hc] at hs
        refine qr_s hC (n := 1) (pc' := 27) (ls' := [.retAddr 0, .int x1, .int x2]) (st' := [.int x1]) (h' := cw nR nN nT X ρ φ) rfl ?_
        have hs := Option.some.inj hs
        subst hs
        exact qr_r hC rfl rfl
      · rw [if_neg hc] at hs
        refine qr_s hC (n := 2) (pc' := 18) (ls' := [.retAddr 0, .int x1, .int x2]) (st' := [.int 10, .int x2]) (h' := cw nR nN nT X ρ φ) rfl ?_
        refine qr_dv hC rfl (by decide) ?_
        refine qr_s hC (n := 3) (pc' := 4) (ls' := [.retAddr 0, .int (x1 + 1), .int (x2 / 10)]) (st' := []) (h' := cw nR nN nT X ρ φ) rfl ?_
        exact ih φ (x1 + 1) (x2 / 10) _ hs
set_option maxRecDepth 100000 in
theorem pr_digitsOf_n (F d : Nat) (nR nN nT : Nat) (X : List (Nat × Nat)) (ρ : Nat → Nat → Option Nat) (φ : qm_F) (x0 : Int32) (r : Int32) (hd : 0 ≤ d) (hs : pr_digitsOf F nR nN nT φ x0 = some r) : qm_Rn d 221 0 [.int x0, .retAddr 0, .retAddr 0] [] (cw nR nN nT X ρ φ) (some (.int r), cw nR nN nT X ρ φ) := by
  have hC := qC_221
  unfold pr_digitsOf at hs
  refine qr_s hC (n := 4) (pc' := 4) (ls' := [.int x0, .int 1, .int x0]) (st' := []) (h' := cw nR nN nT X ρ φ) rfl ?_
  exact qr_w (a := [.retAddr 0, .int 1, .int x0]) ⟨Or.inl rfl, Or.inr rfl, Or.inr rfl, trivial⟩ (pr_digitsOf_L4_n F d nR nN nT X ρ (by omega) F φ 1 x0 _ hs)
/-- SketchFiller$Tokens.lengthOf(I)I -/
def to_lengthOf (F : Nat) (nR nN : Nat) (φ : qm_F) (x1 : Int32) : Option Int32 :=
  if x1 < 0 then
    some 0
  else
    if (φ 4 5) ≤ x1 then
      some 0
    else
      qg (qm_in x1 (nN + 1)) <|
      some (φ 8 x1.toNatClampNeg)
set_option maxRecDepth 100000 in
theorem to_lengthOf_n (F d : Nat) (nR nN : Nat) (X : List (Nat × Nat)) (ρ : Nat → Nat → Option Nat) (φ : qm_F) (x1 : Int32) (r : Int32) (hd : 0 ≤ d) (hs : to_lengthOf F nR nN φ x1 = some r) : qm_Rn d 269 0 [.ref 4, .int x1] [] (ct nR nN X ρ φ) (some (.int r), ct nR nN X ρ φ) := by
  have hC := qC_269
  unfold to_lengthOf at hs
  refine qr_s hC (n := 1) (pc' := 1) (ls' := [.ref 4, .int x1]) (st' := [.int x1]) (h' := ct nR nN X ρ φ) rfl ?_
  refine qr_lt1 (tgt := 21) hC rfl (by decide) rfl (fun hc => ?_) (fun hc => ?_)
  · rw [if_pos hc] at hs
    refine qr_s hC (n := 1) (pc' := 22) (ls' := [.ref 4, .int x1]) (st' := [.int 0]) (h' := ct nR nN X ρ φ) rfl ?_
    have hs := Option.some.inj hs
    subst hs
    exact qr_r hC rfl rfl
  · rw [if_neg hc] at hs
    refine qr_s hC (n := 3) (pc' := 9) (ls' := [.ref 4, .int x1]) (st' := [.int (φ 4 5), .int x1]) (h' := ct nR nN X ρ φ) rfl ?_
    refine qr_ge2 (tgt := 21) hC rfl (by decide) rfl (fun hc => ?_) (fun hc => ?_)
    · rw [if_pos hc] at hs
      refine qr_s hC (n := 1) (pc' := 22) (ls' := [.ref 4, .int x1]) (st' := [.int 0]) (h' := ct nR nN X ρ φ) rfl ?_
      have hs := Option.some.inj hs
      subst hs
      exact qr_r hC rfl rfl
    · rw [if_neg hc] at hs
      refine qr_s hC (n := 3) (pc' := 17) (ls' := [.ref 4, .int x1]) (st' := [.int x1, .ref 8]) (h' := ct nR nN X ρ φ) rfl ?_
      obtain ⟨hq, hs⟩ := qg_s hs
      refine qr_ia (v := φ 8 x1.toNatClampNeg) hC rfl rfl hq rfl ?_
      refine qr_s hC (n := 1) (pc' := 22) (ls' := [.ref 4, .int x1]) (st' := [.int (φ 8 x1.toNatClampNeg)]) (h' := ct nR nN X ρ φ) rfl ?_
      have hs := Option.some.inj hs
      subst hs
      exact qr_r hC rfl rfl
/-- SketchFiller$Program.shownLength(II)I -/
def pr_shownLength (F : Nat) (nR nN nT : Nat) (φ : qm_F) (x1 : Int32) (x2 : Int32) : Option Int32 :=
  qb1 (pr_isShownAsNumber F nR nN nT φ x2) fun y1 =>
  if y1 = 0 then
    qb1 (to_lengthOf F nR nN φ x2) fun y2 =>
    some y2
  else
    qb1 (pr_shownNumber F nR nN nT φ x1 x2) fun y3 =>
    qb1 (pr_digitsOf F nR nN nT φ y3) fun y4 =>
    some y4
set_option maxRecDepth 100000 in
theorem pr_shownLength_n (F d : Nat) (nR nN nT : Nat) (X : List (Nat × Nat)) (ρ : Nat → Nat → Option Nat) (φ : qm_F) (x1 : Int32) (x2 : Int32) (r : Int32) (hd : 3 ≤ d) (hs : pr_shownLength F nR nN nT φ x1 x2 = some r) : qm_Rn d 219 0 [.ref 14, .int x1, .int x2] [] (cw nR nN nT X ρ φ) (some (.int r), cw nR nN nT X ρ φ) := by
  obtain ⟨d, rfl⟩ : ∃ e, d = e + 1 := ⟨d - 1, by omega⟩
  have hC := qC_219
  unfold pr_shownLength at hs
  refine qr_s hC (n := 2) (pc' := 2) (ls' := [.ref 14, .int x1, .int x2]) (st' := [.int x2, .ref 14]) (h' := cw nR nN nT X ρ φ) rfl ?_
  obtain ⟨y1, hy, hs⟩ := qb1_s hs
  refine qr_c (j := 217) (as := [.ref 14, .int x2]) (rest := []) (v := some (.int y1)) (h1 := cw nR nN nT X ρ φ) hC rfl rfl qC_217 rfl rfl (pr_isShownAsNumber_n F d nR nN nT X ρ φ x2 _ (by omega) hy) ?_
  show qm_Rn (d + 1) 219 5 [.ref 14, .int x1, .int x2] [.int y1] (cw nR nN nT X ρ φ) _
  refine qr_eq1 (tgt := 20) hC rfl (by decide) rfl (fun hc => ?_) (fun hc => ?_)
  · rw [if_pos hc] at hs
    refine qr_s hC (n := 3) (pc' := 25) (ls' := [.ref 14, .int x1, .int x2]) (st' := [.int x2, .ref 4]) (h' := cw nR nN nT X ρ φ) rfl ?_
    obtain ⟨y2, hy, hs⟩ := qb1_s hs
    refine qr_c (j := 269) (as := [.ref 4, .int x2]) (rest := []) (v := some (.int y2)) (h1 := cw nR nN nT X ρ φ) hC rfl rfl qC_269 rfl rfl (to_lengthOf_n F d nR nN (cw_X nT X) (cw_R ρ) φ x2 _ (by omega) hy) ?_
    show qm_Rn (d + 1) 219 28 [.ref 14, .int x1, .int x2] [.int y2] (cw nR nN nT X ρ φ) _
    have hs := Option.some.inj hs
    subst hs
    exact qr_r hC rfl rfl
  · rw [if_neg hc] at hs
    refine qr_s hC (n := 3) (pc' := 11) (ls' := [.ref 14, .int x1, .int x2]) (st' := [.int x2, .int x1, .ref 14]) (h' := cw nR nN nT X ρ φ) rfl ?_
    obtain ⟨y3, hy, hs⟩ := qb1_s hs
    refine qr_c (j := 218) (as := [.ref 14, .int x1, .int x2]) (rest := []) (v := some (.int y3)) (h1 := cw nR nN nT X ρ φ) hC rfl rfl qC_218 rfl rfl (pr_shownNumber_n F d nR nN nT X ρ φ x1 x2 _ (by omega) hy) ?_
    show qm_Rn (d + 1) 219 14 [.ref 14, .int x1, .int x2] [.int y3] (cw nR nN nT X ρ φ) _
    obtain ⟨y4, hy, hs⟩ := qb1_s hs
    refine qr_c (j := 221) (as := [.int y3]) (rest := []) (v := some (.int y4)) (h1 := cw nR nN nT X ρ φ) hC rfl rfl qC_221 rfl rfl (pr_digitsOf_n F d nR nN nT X ρ φ y3 _ (by omega) hy) ?_
    show qm_Rn (d + 1) 219 17 [.ref 14, .int x1, .int x2] [.int y4] (cw nR nN nT X ρ φ) _
    refine qr_s hC (n := 1) (pc' := 28) (ls' := [.ref 14, .int x1, .int x2]) (st' := [.int y4]) (h' := cw nR nN nT X ρ φ) rfl ?_
    have hs := Option.some.inj hs
    subst hs
    exact qr_r hC rfl rfl
/-- SketchFiller$Program.shownBytes(I)I -/
def pr_shownBytes_L7 (F : Nat) (nR nN nT : Nat) : Nat → qm_F → Int32 → Int32 → Int32 → Option Int32
  | 0, _, _, _, _ => none
  | n + 1, φ, x1, x2, x3 =>
    qb1 (pr_shownEnd F nR nN nT φ) fun y1 =>
    if y1 ≤ x3 then
      some x2
    else
      qb1 (pr_shownLength F nR nN nT φ x1 x3) fun y2 =>
      if x3 ≤ (φ 14 17) then
        pr_shownBytes_L7 F nR nN nT n φ x1 (x2 + (y2 + 0)) (x3 + 1)
      else
        pr_shownBytes_L7 F nR nN nT n φ x1 (x2 + (y2 + 1)) (x3 + 1)
def pr_shownBytes (F : Nat) (nR nN nT : Nat) (φ : qm_F) (x1 : Int32) : Option Int32 :=
  pr_shownBytes_L7 F nR nN nT F φ x1 0 (φ 14 17)
set_option maxRecDepth 100000 in
theorem pr_shownBytes_L7_n (F d : Nat) (nR nN nT : Nat) (X : List (Nat × Nat)) (ρ : Nat → Nat → Option Nat) (hd : 4 ≤ d) : ∀ (n : Nat) (φ : qm_F) (x1 : Int32) (x2 : Int32) (x3 : Int32) (r : Int32), pr_shownBytes_L7 F nR nN nT n φ x1 x2 x3 = some r → qm_Rn d 215 7 [.ref 14, .int x1, .int x2, .int x3] [] (cw nR nN nT X ρ φ) (some (.int r), cw nR nN nT X ρ φ) := by
  obtain ⟨d, rfl⟩ : ∃ e, d = e + 1 := ⟨d - 1, by omega⟩
  have hC := qC_215
  intro n
  induction n with
  | zero => intro φ x1 x2 x3 r hs; simp [pr_shownBytes_L7] at hs
  | succ n ih =>
    intro φ x1 x2 x3 r hs
    rw [pr_shownBytes_L7] at hs
    refine qr_s hC (n := 2) (pc' := 9) (ls' := [.ref 14, .int x1, .int x2, .int x3]) (st' := [.ref 14, .int x3]) (h' := cw nR nN nT X ρ φ) rfl ?_
    obtain ⟨y1, hy, hs⟩ := qb1_s hs
    refine qr_c (j := 214) (as := [.ref 14]) (rest := [.int x3]) (v := some (.int y1)) (h1 := cw nR nN nT X ρ φ) hC rfl rfl qC_214 rfl rfl (pr_shownEnd_n F d nR nN nT X ρ φ _ (by omega) hy) ?_
    show qm_Rn (d + 1) 215 12 [.ref 14, .int x1, .int x2, .int x3] [.int y1, .int x3] (cw nR nN nT X ρ φ) _
    refine qr_ge2 (tgt := 44) hC rfl (by decide) rfl (fun hc => ?_) (fun hc => ?_)
    · rw [if_pos hc] at hs
      refine qr_s hC (n := 1) (pc' := 45) (ls' := [.ref 14, .int x1, .int x2, .int x3]) (st' := [.int x2]) (h' := cw nR nN nT X ρ φ) rfl ?_
      have hs := Option.some.inj hs
      subst hs
      exact qr_r hC rfl rfl
    · rw [if_neg hc] at hs
      refine qr_s hC (n := 4) (pc' := 19) (ls' := [.ref 14, .int x1, .int x2, .int x3]) (st' := [.int x3, .int x1, .ref 14, .int x2]) (h' := cw nR nN nT X ρ φ) rfl ?_
      obtain ⟨y2, hy, hs⟩ := qb1_s hs
      refine qr_c (j := 219) (as := [.ref 14, .int x1, .int x3]) (rest := [.int x2]) (v := some (.int y2)) (h1 := cw nR nN nT X ρ φ) hC rfl rfl qC_219 rfl rfl (pr_shownLength_n F d nR nN nT X ρ φ x1 x3 _ (by omega) hy) ?_
      show qm_Rn (d + 1) 215 22 [.ref 14, .int x1, .int x2, .int x3] [.int y2, .int x2] (cw nR nN nT X ρ φ) _
      refine qr_s hC (n := 3) (pc' := 27) (ls' := [.ref 14, .int x1, .int x2, .int x3]) (st' := [.int (φ 14 17), .int x3, .int y2, .int x2]) (h' := cw nR nN nT X ρ φ) rfl ?_
      refine qr_le2 (tgt := 34) hC rfl (by decide) rfl (fun hc => ?_) (fun hc => ?_)
      · rw [if_pos hc] at hs
        refine qr_s hC (n := 6) (pc' := 7) (ls' := [.ref 14, .int x1, .int (x2 + (y2 + 0)), .int (x3 + 1)]) (st' := []) (h' := cw nR nN nT X ρ φ) rfl ?_
        exact ih φ x1 (x2 + (y2 + 0)) (x3 + 1) _ hs
      · rw [if_neg hc] at hs
        refine qr_s hC (n := 7) (pc' := 7) (ls' := [.ref 14, .int x1, .int (x2 + (y2 + 1)), .int (x3 + 1)]) (st' := []) (h' := cw nR nN nT X ρ φ) rfl ?_
        exact ih φ x1 (x2 + (y2 + 1)) (x3 + 1) _ hs
set_option maxRecDepth 100000 in
theorem pr_shownBytes_n (F d : Nat) (nR nN nT : Nat) (X : List (Nat × Nat)) (ρ : Nat → Nat → Option Nat) (φ : qm_F) (x1 : Int32) (r : Int32) (hd : 4 ≤ d) (hs : pr_shownBytes F nR nN nT φ x1 = some r) : qm_Rn d 215 0 [.ref 14, .int x1, .retAddr 0, .retAddr 0] [] (cw nR nN nT X ρ φ) (some (.int r), cw nR nN nT X ρ φ) := by
  obtain ⟨d, rfl⟩ : ∃ e, d = e + 1 := ⟨d - 1, by omega⟩
  have hC := qC_215
  unfold pr_shownBytes at hs
  refine qr_s hC (n := 5) (pc' := 7) (ls' := [.ref 14, .int x1, .int 0, .int (φ 14 17)]) (st' := []) (h' := cw nR nN nT X ρ φ) rfl ?_
  exact pr_shownBytes_L7_n F (d + 1) nR nN nT X ρ (by omega) F φ x1 0 (φ 14 17) _ hs
