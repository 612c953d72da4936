/-- SketchFiller$Machine.outcome()I -/
def ma_outcome (F : Nat) (nR nN nT gg : Nat) (φ : qm_F) : Option Int32 :=
  some (φ 26 9)
set_option maxRecDepth 100000 in
theorem ma_outcome_n (F d : Nat) (nR nN nT gg : Nat) (X : List (Nat × Nat)) (ρ : Nat → Nat → Option Nat) (φ : qm_F) (r : Int32) (hd : 0 ≤ d) (hs : ma_outcome F nR nN nT gg φ = some r) : qm_Rn d 149 0 [.ref 26] [] (cs nR nN nT gg X ρ φ) (some (.int r), cs nR nN nT gg X ρ φ) := by
  have hC := qC_149
  unfold ma_outcome at hs
  refine qr_s hC (n := 2) (pc' := 4) (ls' := [.ref 26]) (st' := [.int (φ 26 9)]) (h' := cs nR nN nT gg X ρ φ) rfl ?_
  have hs := Option.some.inj hs
  subst hs
  exact qr_r hC rfl rfl
/-- SketchFiller$Verdicts.verdictOf(II)I -/
def ve_verdictOf_L62 (F : Nat) (nR nN nT gg : Nat) (φ : qm_F) (x3 : Int32) : Option (Int32 × qm_F) :=
  qg (qm_in x3 nR) <|
  some ((φ 3 x3.toNatClampNeg) - 1, φ)
def ve_verdictOf (F : Nat) (nR nN nT gg : Nat) (φ : qm_F) (x1 : Int32) (x2 : Int32) : Option (Int32 × qm_F) :=
  if ((x1 * (φ 25 1)) + x2) < 0 then
    some ((-1), φ)
  else
    qg (decide (nR < 2147483648)) <|
    if ((x1 * (φ 25 1)) + x2) < (Int32.ofNat nR) then
      qg (qm_in ((x1 * (φ 25 1)) + x2) nR) <|
      if ¬ (φ 3 (((x1 * (φ 25 1)) + x2).toNatClampNeg)) = 0 then
        ve_verdictOf_L62 F nR nN nT gg φ ((x1 * (φ 25 1)) + x2)
      else
        qb1 (ma_run F nR nN nT gg φ x1 x2 (φ 25 3)) fun φ1 =>
        qb1 (ma_outcome F nR nN nT gg φ1) fun y1 =>
        qg (qm_in ((x1 * (φ 25 1)) + x2) nR) <|
        ve_verdictOf_L62 F nR nN nT gg (qm_u φ1 3 (((x1 * (φ 25 1)) + x2).toNatClampNeg) (qm_by (qm_by (y1 + 1)))) ((x1 * (φ 25 1)) + x2)
    else
      some ((-1), φ)
set_option maxRecDepth 100000 in
theorem ve_verdictOf_L62_n (F d : Nat) (nR nN nT gg : Nat) (X : List (Nat × Nat)) (ρ : Nat → Nat → Option Nat) (hd : 3 ≤ d) (φ : qm_F) (x3 : Int32) (r : (Int32 × qm_F)) (hs : ve_verdictOf_L62 F nR nN nT gg φ x3 = some r) : qm_Rn d 276 62 [.ref 25, .retAddr 0, .retAddr 0, .int x3] [] (cs nR nN nT gg X ρ φ) (some (.int r.1), cs nR nN nT gg X ρ r.2) := by
  obtain ⟨d, rfl⟩ : ∃ e, d = e + 1 := ⟨d - 1, by omega⟩
  have hC := qC_276
  unfold ve_verdictOf_L62 at hs
  refine qr_s hC (n := 3) (pc' := 67) (ls' := [.ref 25, .retAddr 0, .retAddr 0, .int x3]) (st' := [.int x3, .ref 3]) (h' := cs nR nN nT gg X ρ φ) rfl ?_
  obtain ⟨hq, hs⟩ := qg_s hs
  refine qr_ba (v := φ 3 x3.toNatClampNeg) hC rfl rfl hq rfl ?_
  refine qr_s hC (n := 2) (pc' := 70) (ls' := [.ref 25, .retAddr 0, .retAddr 0, .int x3]) (st' := [.int ((φ 3 x3.toNatClampNeg) - 1)]) (h' := cs nR nN nT gg X ρ φ) rfl ?_
  have hs := Option.some.inj hs
  subst hs
  exact qr_r hC rfl rfl
set_option maxRecDepth 100000 in
theorem ve_verdictOf_n (F d : Nat) (nR nN nT gg : Nat) (X : List (Nat × Nat)) (ρ : Nat → Nat → Option Nat) (φ : qm_F) (x1 : Int32) (x2 : Int32) (r : (Int32 × qm_F)) (hd : 3 ≤ d) (hs : ve_verdictOf F nR nN nT gg φ x1 x2 = some r) : qm_Rn d 276 0 [.ref 25, .int x1, .int x2, .retAddr 0] [] (cs nR nN nT gg X ρ φ) (some (.int r.1), cs nR nN nT gg X ρ r.2) := by
  obtain ⟨d, rfl⟩ : ∃ e, d = e + 1 := ⟨d - 1, by omega⟩
  have hC := qC_276
  unfold ve_verdictOf at hs
  refine qr_s hC (n := 8) (pc' := 10) (ls' := [.ref 25, .int x1, .int x2, .int ((x1 * (φ 25 1)) + x2)]) (st' := [.int ((x1 * (φ 25 1)) + x2)]) (h' := cs nR nN nT gg X ρ φ) rfl ?_
  refine qr_lt1 (tgt := 22) hC rfl (by decide) rfl (fun hc => ?_) (fun hc => ?_)
  · rw [if_pos hc] at hs
    refine qr_s hC (n := 1) (pc' := 23) (ls' := [.ref 25, .int x1, .int x2, .int ((x1 * (φ 25 1)) + x2)]) (st' := [.int (-1)]) (h' := cs nR nN nT gg X ρ φ) rfl ?_
    have hs := Option.some.inj hs
    subst hs
    exact qr_r hC rfl rfl
  · rw [if_neg hc] at hs
    refine qr_s hC (n := 3) (pc' := 18) (ls' := [.ref 25, .int x1, .int x2, .int ((x1 * (φ 25 1)) + x2)]) (st' := [.ref 3, .int ((x1 * (φ 25 1)) + x2)]) (h' := cs nR nN nT gg X ρ φ) rfl ?_
    obtain ⟨hq, hs⟩ := qg_s hs
    refine qr_al hC rfl rfl hq ?_
    refine qr_lt2 (tgt := 24) hC rfl (by decide) rfl (fun hc => ?_) (fun hc => ?_)
    · rw [if_pos hc] at hs
      refine qr_s hC (n := 3) (pc' := 29) (ls' := [.ref 25, .int x1, .int x2, .int ((x1 * (φ 25 1)) + x2)]) (st' := [.int ((x1 * (φ 25 1)) + x2), .ref 3]) (h' := cs nR nN nT gg X ρ φ) rfl ?_
      obtain ⟨hq, hs⟩ := qg_s hs
      refine qr_ba (v := φ 3 (((x1 * (φ 25 1)) + x2).toNatClampNeg)) hC rfl rfl hq rfl ?_
      refine qr_ne1 (tgt := 62) hC rfl (by decide) rfl (fun hc => ?_) (fun hc => ?_)
      · rw [if_pos hc] at hs
        exact qr_w (a := [.ref 25, .retAddr 0, .retAddr 0, .int ((x1 * (φ 25 1)) + x2)]) ⟨Or.inr rfl, Or.inl rfl, Or.inl rfl, Or.inr rfl, trivial⟩ (ve_verdictOf_L62_n F (d + 1) nR nN nT gg X ρ (by omega) φ ((x1 * (φ 25 1)) + x2) _ hs)
      · rw [if_neg hc] at hs
        refine qr_s hC (n := 6) (pc' := 43) (ls' := [.ref 25, .int x1, .int x2, .int ((x1 * (φ 25 1)) + x2)]) (st' := [.int (φ 25 3), .int x2, .int x1, .ref 26]) (h' := cs nR nN nT gg X ρ φ) rfl ?_
        obtain ⟨φ1, hy, hs⟩ := qb1_s hs
        refine qr_c (j := 148) (as := [.ref 26, .int x1, .int x2, .int (φ 25 3)]) (rest := []) (v := none) (h1 := cs nR nN nT gg X ρ φ1) hC rfl rfl qC_148 rfl rfl (ma_run_n F d nR nN nT gg X ρ φ x1 x2 (φ 25 3) _ (by omega) hy) ?_
        show qm_Rn (d + 1) 276 46 [.ref 25, .int x1, .int x2, .int ((x1 * (φ 25 1)) + x2)] [] (cs nR nN nT gg X ρ φ1) _
        refine qr_s hC (n := 5) (pc' := 55) (ls' := [.ref 25, .int x1, .int x2, .int ((x1 * (φ 25 1)) + x2)]) (st' := [.ref 26, .int ((x1 * (φ 25 1)) + x2), .ref 3]) (h' := cs nR nN nT gg X ρ φ1) rfl ?_
        obtain ⟨y1, hy, hs⟩ := qb1_s hs
        refine qr_c (j := 149) (as := [.ref 26]) (rest := [.int ((x1 * (φ 25 1)) + x2), .ref 3]) (v := some (.int y1)) (h1 := cs nR nN nT gg X ρ φ1) hC rfl rfl qC_149 rfl rfl (ma_outcome_n F d nR nN nT gg X ρ φ1 _ (by omega) hy) ?_
        show qm_Rn (d + 1) 276 58 [.ref 25, .int x1, .int x2, .int ((x1 * (φ 25 1)) + x2)] [.int y1, .int ((x1 * (φ 25 1)) + x2), .ref 3] (cs nR nN nT gg X ρ φ1) _
        refine qr_s hC (n := 3) (pc' := 61) (ls' := [.ref 25, .int x1, .int x2, .int ((x1 * (φ 25 1)) + x2)]) (st' := [.int (qm_by (y1 + 1)), .int ((x1 * (φ 25 1)) + x2), .ref 3]) (h' := cs nR nN nT gg X ρ φ1) rfl ?_
        obtain ⟨hq, hs⟩ := qg_s hs
        refine qr_bs (h' := cs nR nN nT gg X ρ (qm_u φ1 3 (((x1 * (φ 25 1)) + x2).toNatClampNeg) (qm_by (qm_by (y1 + 1))))) hC rfl rfl hq rfl ?_
        exact qr_w (a := [.ref 25, .retAddr 0, .retAddr 0, .int ((x1 * (φ 25 1)) + x2)]) ⟨Or.inr rfl, Or.inl rfl, Or.inl rfl, Or.inr rfl, trivial⟩ (ve_verdictOf_L62_n F (d + 1) nR nN nT gg X ρ (by omega) (qm_u φ1 3 (((x1 * (φ 25 1)) + x2).toNatClampNeg) (qm_by (qm_by (y1 + 1)))) ((x1 * (φ 25 1)) + x2) _ hs)
    · rw [if_neg hc] at hs
      refine qr_s hC (n := 1) (pc' := 23) (ls' := [.ref 25, .int x1, .int x2, .int ((x1 * (φ 25 1)) + x2)]) (st' := [.int (-1)]) (h' := cs nR nN nT gg X ρ φ) rfl ?_
      have hs := Option.some.inj hs
      subst hs
      exact qr_r hC rfl rfl
/-- SketchFiller.verdict(II)I -/
def sf_verdict (F : Nat) (nR nN nT gg : Nat) (φ : qm_F) (x1 : Int32) (x2 : Int32) : Option (Int32 × qm_F) :=
  qb1 (pr_hasRun F nR nN nT φ x1 x2) fun y1 =>
  if ¬ y1 = 0 then
    qb2 (ve_verdictOf F nR nN nT gg φ x1 x2) fun y2 φ1 =>
    some (y2, φ1)
  else
    some ((-1), φ)
set_option maxRecDepth 100000 in
theorem sf_verdict_n (F d : Nat) (nR nN nT gg : Nat) (X : List (Nat × Nat)) (ρ : Nat → Nat → Option Nat) (φ : qm_F) (x1 : Int32) (x2 : Int32) (r : (Int32 × qm_F)) (hd : 4 ≤ d) (hs : sf_verdict F nR nN nT gg φ x1 x2 = some r) : qm_Rn d 7 0 [.ref 0, .int x1, .int x2] [] (cs nR nN nT gg X ρ φ) (some (.int r.1), cs nR nN nT gg X ρ r.2) := by
  obtain ⟨d, rfl⟩ : ∃ e, d = e + 1 := ⟨d - 1, by omega⟩
  have hC := qC_7
  unfold sf_verdict at hs
  refine qr_s hC (n := 8) (pc' := 16) (ls' := [.ref 0, .int x1, .int x2]) (st' := [.int x2, .int x1, .ref 14]) (h' := cs nR nN nT gg X ρ φ) rfl ?_
  obtain ⟨y1, hy, hs⟩ := qb1_s hs
  refine qr_c (j := 206) (as := [.ref 14, .int x1, .int x2]) (rest := []) (v := some (.int y1)) (h1 := cs nR nN nT gg X ρ φ) hC rfl rfl qC_206 rfl rfl (pr_hasRun_n F d nR nN nT (cr_X gg (cs_X gg X)) (cr_R (cs_R ρ)) φ x1 x2 _ (by omega) hy) ?_
  show qm_Rn (d + 1) 7 19 [.ref 0, .int x1, .int x2] [.int y1] (cs nR nN nT gg X ρ φ) _
  refine qr_ne1 (tgt := 24) hC rfl (by decide) rfl (fun hc => ?_) (fun hc => ?_)
  · rw [if_pos hc] at hs
    refine qr_s hC (n := 5) (pc' := 33) (ls' := [.ref 0, .int x1, .int x2]) (st' := [.int x2, .int x1, .ref 25]) (h' := cs nR nN nT gg X ρ φ) rfl ?_
    obtain ⟨y2, φ1, hy, hs⟩ := qb2_s hs
    refine qr_c (j := 276) (as := [.ref 25, .int x1, .int x2]) (rest := []) (v := some (.int y2)) (h1 := cs nR nN nT gg X ρ φ1) hC rfl rfl qC_276 rfl rfl (ve_verdictOf_n F d nR nN nT gg X ρ φ x1 x2 _ (by omega) hy) ?_
    show qm_Rn (d + 1) 7 36 [.ref 0, .int x1, .int x2] [.int y2] (cs nR nN nT gg X ρ φ1) _
    have hs := Option.some.inj hs
    subst hs
    exact qr_r hC rfl rfl
  · rw [if_neg hc] at hs
    refine qr_s hC (n := 1) (pc' := 23) (ls' := [.ref 0, .int x1, .int x2]) (st' := [.int (-1)]) (h' := cs nR nN nT gg X ρ φ) rfl ?_
    have hs := Option.some.inj hs
    subst hs
    exact qr_r hC rfl rfl
/-- SketchFiller$Machine.stepsBegun()I -/
def ma_stepsBegun (F : Nat) (nR nN nT gg : Nat) (φ : qm_F) : Option Int32 :=
  some (φ 26 8)
set_option maxRecDepth 100000 in
theorem ma_stepsBegun_n (F d : Nat) (nR nN nT gg : Nat) (X : List (Nat × Nat)) (ρ : Nat → Nat → Option Nat) (φ : qm_F) (r : Int32) (hd : 0 ≤ d) (hs : ma_stepsBegun F nR nN nT gg φ = some r) : qm_Rn d 150 0 [.ref 26] [] (cs nR nN nT gg X ρ φ) (some (.int r), cs nR nN nT gg X ρ φ) := by
  have hC := qC_150
  unfold ma_stepsBegun at hs
  refine qr_s hC (n := 2) (pc' := 4) (ls' := [.ref 26]) (st' := [.int (φ 26 8)]) (h' := cs nR nN nT gg X ρ φ) rfl ?_
  have hs := Option.some.inj hs
  subst hs
  exact qr_r hC rfl rfl
/-- SketchFiller$Verdicts.ran(II)LSketchFiller$Machine; -/
def ve_ran (F : Nat) (nR nN nT gg : Nat) (φ : qm_F) (x1 : Int32) (x2 : Int32) : Option qm_F :=
  qb1 (ma_run F nR nN nT gg φ x1 x2 (φ 25 3)) fun φ1 =>
  some φ1
set_option maxRecDepth 100000 in
theorem ve_ran_n (F d : Nat) (nR nN nT gg : Nat) (X : List (Nat × Nat)) (ρ : Nat → Nat → Option Nat) (φ : qm_F) (x1 : Int32) (x2 : Int32) (r : qm_F) (hd : 3 ≤ d) (hs : ve_ran F nR nN nT gg φ x1 x2 = some r) : qm_Rn d 275 0 [.ref 25, .int x1, .int x2] [] (cs nR nN nT gg X ρ φ) (some (.ref 26), cs nR nN nT gg X ρ r) := by
  obtain ⟨d, rfl⟩ : ∃ e, d = e + 1 := ⟨d - 1, by omega⟩
  have hC := qC_275
  unfold ve_ran at hs
  refine qr_s hC (n := 6) (pc' := 10) (ls' := [.ref 25, .int x1, .int x2]) (st' := [.int (φ 25 3), .int x2, .int x1, .ref 26]) (h' := cs nR nN nT gg X ρ φ) rfl ?_
  obtain ⟨φ1, hy, hs⟩ := qb1_s hs
  refine qr_c (j := 148) (as := [.ref 26, .int x1, .int x2, .int (φ 25 3)]) (rest := []) (v := none) (h1 := cs nR nN nT gg X ρ φ1) hC rfl rfl qC_148 rfl rfl (ma_run_n F d nR nN nT gg X ρ φ x1 x2 (φ 25 3) _ (by omega) hy) ?_
  show qm_Rn (d + 1) 275 13 [.ref 25, .int x1, .int x2] [] (cs nR nN nT gg X ρ φ1) _
  refine qr_s hC (n := 2) (pc' := 17) (ls' := [.ref 25, .int x1, .int x2]) (st' := [.ref 26]) (h' := cs nR nN nT gg X ρ φ1) rfl ?_
  have hs := Option.some.inj hs
  subst hs
  exact qr_r hC rfl rfl
/-- SketchFiller.steps(II)I -/
def sf_steps (F : Nat) (nR nN nT gg : Nat) (φ : qm_F) (x1 : Int32) (x2 : Int32) : Option (Int32 × qm_F) :=
  qb1 (pr_hasRun F nR nN nT φ x1 x2) fun y1 =>
  if ¬ y1 = 0 then
    qb1 (ve_ran F nR nN nT gg φ x1 x2) fun φ1 =>
    qb1 (ma_stepsBegun F nR nN nT gg φ1) fun y2 =>
    some (y2, φ1)
  else
    some ((-1), φ)
set_option maxRecDepth 100000 in
theorem sf_steps_n (F d : Nat) (nR nN nT gg : Nat) (X : List (Nat × Nat)) (ρ : Nat → Nat → Option Nat) (φ : qm_F) (x1 : Int32) (x2 : Int32) (r : (Int32 × qm_F)) (hd : 4 ≤ d) (hs : sf_steps F nR nN nT gg φ x1 x2 = some r) : qm_Rn d 8 0 [.ref 0, .int x1, .int x2] [] (cs nR nN nT gg X ρ φ) (some (.int r.1), cs nR nN nT gg X ρ r.2) := by
  obtain ⟨d, rfl⟩ : ∃ e, d = e + 1 := ⟨d - 1, by omega⟩
  have hC := qC_8
  unfold sf_steps at hs
  refine qr_s hC (n := 8) (pc' := 16) (ls' := [.ref 0, .int x1, .int x2]) (st' := [.int x2, .int x1, .ref 14]) (h' := cs nR nN nT gg X ρ φ) rfl ?_
  obtain ⟨y1, hy, hs⟩ := qb1_s hs
  refine qr_c (j := 206) (as := [.ref 14, .int x1, .int x2]) (rest := []) (v := some (.int y1)) (h1 := cs nR nN nT gg X ρ φ) hC rfl rfl qC_206 rfl rfl (pr_hasRun_n F d nR nN nT (cr_X gg (cs_X gg X)) (cr_R (cs_R ρ)) φ x1 x2 _ (by omega) hy) ?_
  show qm_Rn (d + 1) 8 19 [.ref 0, .int x1, .int x2] [.int y1] (cs nR nN nT gg X ρ φ) _
  refine qr_ne1 (tgt := 24) hC rfl (by decide) rfl (fun hc => ?_) (fun hc => ?_)
  · rw [if_pos hc] at hs
    refine qr_s hC (n := 5) (pc' := 33) (ls' := [.ref 0, .int x1, .int x2]) (st' := [.int x2, .int x1, .ref 25]) (h' := cs nR nN nT gg X ρ φ) rfl ?_
    obtain ⟨φ1, hy, hs⟩ := qb1_s hs
    refine qr_c (j := 275) (as := [.ref 25, .int x1, .int x2]) (rest := []) (v := some (.ref 26)) (h1 := cs nR nN nT gg X ρ φ1) hC rfl rfl qC_275 rfl rfl (ve_ran_n F d nR nN nT gg X ρ φ x1 x2 _ (by omega) hy) ?_
    show qm_Rn (d + 1) 8 36 [.ref 0, .int x1, .int x2] [.ref 26] (cs nR nN nT gg X ρ φ1) _
    obtain ⟨y2, hy, hs⟩ := qb1_s hs
    refine qr_c (j := 150) (as := [.ref 26]) (rest := []) (v := some (.int y2)) (h1 := cs nR nN nT gg X ρ φ1) hC rfl rfl qC_150 rfl rfl (ma_stepsBegun_n F d nR nN nT gg X ρ φ1 _ (by omega) hy) ?_
    show qm_Rn (d + 1) 8 39 [.ref 0, .int x1, .int x2] [.int y2] (cs nR nN nT gg X ρ φ1) _
    have hs := Option.some.inj hs
    subst hs
    exact qr_r hC rfl rfl
  · rw [if_neg hc] at hs
    refine qr_s hC (n := 1) (pc' := 23) (ls' := [.ref 0, .int x1, .int x2]) (st' := [.int (-1)]) (h' := cs nR nN nT gg X ρ φ) rfl ?_
    have hs := Option.some.inj hs
    subst hs
    exact qr_r hC rfl rfl
/-- SketchFiller$Machine.varAt(I)I -/
def ma_varAt (F : Nat) (nR nN nT gg : Nat) (φ : qm_F) (x1 : Int32) : Option Int32 :=
  if x1 < 0 then
    some (-1)
  else
    if 4 ≤ x1 then
      some (-1)
    else
      qg (qm_in (8 + x1) 15) <|
      some (φ 27 ((8 + x1).toNatClampNeg))
set_option maxRecDepth 100000 in
theorem ma_varAt_n (F d : Nat) (nR nN nT gg : Nat) (X : List (Nat × Nat)) (ρ : Nat → Nat → Option Nat) (φ : qm_F) (x1 : Int32) (r : Int32) (hd : 0 ≤ d) (hs : ma_varAt F nR nN nT gg φ x1 = some r) : qm_Rn d 151 0 [.ref 26, .int x1] [] (cs nR nN nT gg X ρ φ) (some (.int r), cs nR nN nT gg X ρ φ) := by
  have hC := qC_151
  unfold ma_varAt at hs
  refine qr_s hC (n := 1) (pc' := 1) (ls' := [.ref 26, .int x1]) (st' := [.int x1]) (h' := cs nR nN nT gg X ρ φ) rfl ?_
  refine qr_lt1 (tgt := 21) hC rfl (by decide) rfl (fun hc => ?_) (fun hc => ?_)
  · rw [if_pos hc] at hs
    refine qr_s hC (n := 1) (pc' := 22) (ls' := [.ref 26, .int x1]) (st' := [.int (-1)]) (h' := cs nR nN nT gg X ρ φ) rfl ?_
    have hs := Option.some.inj hs
    subst hs
    exact qr_r hC rfl rfl
  · rw [if_neg hc] at hs
    refine qr_s hC (n := 2) (pc' := 6) (ls' := [.ref 26, .int x1]) (st' := [.int 4, .int x1]) (h' := cs nR nN nT gg X ρ φ) rfl ?_
    refine qr_ge2 (tgt := 21) hC rfl (by decide) rfl (fun hc => ?_) (fun hc => ?_)
    · rw [if_pos hc] at hs
      refine qr_s hC (n := 1) (pc' := 22) (ls' := [.ref 26, .int x1]) (st' := [.int (-1)]) (h' := cs nR nN nT gg X ρ φ) rfl ?_
      have hs := Option.some.inj hs
      subst hs
      exact qr_r hC rfl rfl
    · rw [if_neg hc] at hs
      refine qr_s hC (n := 5) (pc' := 17) (ls' := [.ref 26, .int x1]) (st' := [.int (8 + x1), .ref 27]) (h' := cs nR nN nT gg X ρ φ) rfl ?_
      obtain ⟨hq, hs⟩ := qg_s hs
      refine qr_ia (v := φ 27 ((8 + x1).toNatClampNeg)) hC rfl rfl hq rfl ?_
      refine qr_s hC (n := 1) (pc' := 22) (ls' := [.ref 26, .int x1]) (st' := [.int (φ 27 ((8 + x1).toNatClampNeg))]) (h' := cs nR nN nT gg X ρ φ) rfl ?_
      have hs := Option.some.inj hs
      subst hs
      exact qr_r hC rfl rfl
/-- SketchFiller.ends(III)I -/
def sf_ends (F : Nat) (nR nN nT gg : Nat) (φ : qm_F) (x1 : Int32) (x2 : Int32) (x3 : Int32) : Option (Int32 × qm_F) :=
  qb1 (pr_hasRun F nR nN nT φ x1 x2) fun y1 =>
  if ¬ y1 = 0 then
    if x3 < 0 then
      some ((-1), φ)
    else
      if x3 < (φ 14 3) then
        qb1 (ve_ran F nR nN nT gg φ x1 x2) fun φ1 =>
        qb1 (ma_outcome F nR nN nT gg φ1) fun y2 =>
        if y2 ≤ 1 then
          qb1 (ma_varAt F nR nN nT gg φ1 x3) fun y3 =>
          some (y3, φ1)
        else
          some ((-2), φ1)
      else
        some ((-1), φ)
  else
    some ((-1), φ)
set_option maxRecDepth 100000 in
theorem sf_ends_n (F d : Nat) (nR nN nT gg : Nat) (X : List (Nat × Nat)) (ρ : Nat → Nat → Option Nat) (φ : qm_F) (x1 : Int32) (x2 : Int32) (x3 : Int32) (r : (Int32 × qm_F)) (hd : 4 ≤ d) (hs : sf_ends F nR nN nT gg φ x1 x2 x3 = some r) : qm_Rn d 9 0 [.ref 0, .int x1, .int x2, .int x3, .retAddr 0] [] (cs nR nN nT gg X ρ φ) (some (.int r.1), cs nR nN nT gg X ρ r.2) := by
  obtain ⟨d, rfl⟩ : ∃ e, d = e + 1 := ⟨d - 1, by omega⟩
  have hC := qC_9
  unfold sf_ends at hs
  refine qr_s hC (n := 8) (pc' := 16) (ls' := [.ref 0, .int x1, .int x2, .int x3, .retAddr 0]) (st' := [.int x2, .int x1, .ref 14]) (h' := cs nR nN nT gg X ρ φ) rfl ?_
  obtain ⟨y1, hy, hs⟩ := qb1_s hs
  refine qr_c (j := 206) (as := [.ref 14, .int x1, .int x2]) (rest := []) (v := some (.int y1)) (h1 := cs nR nN nT gg X ρ φ) hC rfl rfl qC_206 rfl rfl (pr_hasRun_n F d nR nN nT (cr_X gg (cs_X gg X)) (cr_R (cs_R ρ)) φ x1 x2 _ (by omega) hy) ?_
  show qm_Rn (d + 1) 9 19 [.ref 0, .int x1, .int x2, .int x3, .retAddr 0] [.int y1] (cs nR nN nT gg X ρ φ) _
  refine qr_ne1 (tgt := 24) hC rfl (by decide) rfl (fun hc => ?_) (fun hc => ?_)
  · rw [if_pos hc] at hs
    refine qr_s hC (n := 1) (pc' := 25) (ls' := [.ref 0, .int x1, .int x2, .int x3, .retAddr 0]) (st' := [.int x3]) (h' := cs nR nN nT gg X ρ φ) rfl ?_
    refine qr_lt1 (tgt := 42) hC rfl (by decide) rfl (fun hc => ?_) (fun hc => ?_)
    · rw [if_pos hc] at hs
      refine qr_s hC (n := 1) (pc' := 43) (ls' := [.ref 0, .int x1, .int x2, .int x3, .retAddr 0]) (st' := [.int (-1)]) (h' := cs nR nN nT gg X ρ φ) rfl ?_
      have hs := Option.some.inj hs
      subst hs
      exact qr_r hC rfl rfl
    · rw [if_neg hc] at hs
      refine qr_s hC (n := 5) (pc' := 39) (ls' := [.ref 0, .int x1, .int x2, .int x3, .retAddr 0]) (st' := [.int (φ 14 3), .int x3]) (h' := cs nR nN nT gg X ρ φ) rfl ?_
      refine qr_lt2 (tgt := 44) hC rfl (by decide) rfl (fun hc => ?_) (fun hc => ?_)
      · rw [if_pos hc] at hs
        refine qr_s hC (n := 5) (pc' := 53) (ls' := [.ref 0, .int x1, .int x2, .int x3, .retAddr 0]) (st' := [.int x2, .int x1, .ref 25]) (h' := cs nR nN nT gg X ρ φ) rfl ?_
        obtain ⟨φ1, hy, hs⟩ := qb1_s hs
        refine qr_c (j := 275) (as := [.ref 25, .int x1, .int x2]) (rest := []) (v := some (.ref 26)) (h1 := cs nR nN nT gg X ρ φ1) hC rfl rfl qC_275 rfl rfl (ve_ran_n F d nR nN nT gg X ρ φ x1 x2 _ (by omega) hy) ?_
        show qm_Rn (d + 1) 9 56 [.ref 0, .int x1, .int x2, .int x3, .retAddr 0] [.ref 26] (cs nR nN nT gg X ρ φ1) _
        refine qr_s hC (n := 2) (pc' := 60) (ls' := [.ref 0, .int x1, .int x2, .int x3, .ref 26]) (st' := [.ref 26]) (h' := cs nR nN nT gg X ρ φ1) rfl ?_
        obtain ⟨y2, hy, hs⟩ := qb1_s hs
        refine qr_c (j := 149) (as := [.ref 26]) (rest := []) (v := some (.int y2)) (h1 := cs nR nN nT gg X ρ φ1) hC rfl rfl qC_149 rfl rfl (ma_outcome_n F d nR nN nT gg X ρ φ1 _ (by omega) hy) ?_
        show qm_Rn (d + 1) 9 63 [.ref 0, .int x1, .int x2, .int x3, .ref 26] [.int y2] (cs nR nN nT gg X ρ φ1) _
        refine qr_s hC (n := 1) (pc' := 64) (ls' := [.ref 0, .int x1, .int x2, .int x3, .ref 26]) (st' := [.int 1, .int y2]) (h' := cs nR nN nT gg X ρ φ1) rfl ?_
        refine qr_le2 (tgt := 70) hC rfl (by decide) rfl (fun hc => ?_) (fun hc => ?_)
        · rw [if_pos hc] at hs
          refine qr_s hC (n := 2) (pc' := 73) (ls' := [.ref 0, .int x1, .int x2, .int x3, .ref 26]) (st' := [.int x3, .ref 26]) (h' := cs nR nN nT gg X ρ φ1) rfl ?_
          obtain ⟨y3, hy, hs⟩ := qb1_s hs
          refine qr_c (j := 151) (as := [.ref 26, .int x3]) (rest := []) (v := some (.int y3)) (h1 := cs nR nN nT gg X ρ φ1) hC rfl rfl qC_151 rfl rfl (ma_varAt_n F d nR nN nT gg X ρ φ1 x3 _ (by omega) hy) ?_
          show qm_Rn (d + 1) 9 76 [.ref 0, .int x1, .int x2, .int x3, .ref 26] [.int y3] (cs nR nN nT gg X ρ φ1) _
          have hs := Option.some.inj hs
          subst hs
          exact qr_r hC rfl rfl
        · rw [if_neg hc] at hs
          refine qr_s hC (n := 1) (pc' := 69) (ls' := [.ref 0, .int x1, .int x2, .int x3, .ref 26]) (st' := [.int (-2)]) (h' := cs nR nN nT gg X ρ φ1) rfl ?_
          have hs := Option.some.inj hs
          subst hs
          exact qr_r hC rfl rfl
      · rw [if_neg hc] at hs
        refine qr_s hC (n := 1) (pc' := 43) (ls' := [.ref 0, .int x1, .int x2, .int x3, .retAddr 0]) (st' := [.int (-1)]) (h' := cs nR nN nT gg X ρ φ) rfl ?_
        have hs := Option.some.inj hs
        subst hs
        exact qr_r hC rfl rfl
  · rw [if_neg hc] at hs
    refine qr_s hC (n := 1) (pc' := 23) (ls' := [.ref 0, .int x1, .int x2, .int x3, .retAddr 0]) (st' := [.int (-1)]) (h' := cs nR nN nT gg X ρ φ) rfl ?_
    have hs := Option.some.inj hs
    subst hs
    exact qr_r hC rfl rfl
/-- SketchFiller$Verdicts.leastRefuter(I)I -/
def ve_leastRefuter_L2 (F : Nat) (nR nN nT gg : Nat) : Nat → qm_F → Int32 → Int32 → Option (Int32 × qm_F)
  | 0, _, _, _ => none
  | n + 1, φ, x1, x2 =>
    if (φ 25 1) ≤ x2 then
      some ((-1), φ)
    else
      qb2 (ve_verdictOf F nR nN nT gg φ x1 x2) fun y1 φ1 =>
      if y1 = 0 then
        ve_leastRefuter_L2 F nR nN nT gg n φ1 x1 (x2 + 1)
      else
        some (x2, φ1)
def ve_leastRefuter (F : Nat) (nR nN nT gg : Nat) (φ : qm_F) (x1 : Int32) : Option (Int32 × qm_F) :=
  ve_leastRefuter_L2 F nR nN nT gg F φ x1 0
set_option maxRecDepth 100000 in
theorem ve_leastRefuter_L2_n (F d : Nat) (nR nN nT gg : Nat) (X : List (Nat × Nat)) (ρ : Nat → Nat → Option Nat) (hd : 4 ≤ d) : ∀ (n : Nat) (φ : qm_F) (x1 : Int32) (x2 : Int32) (r : (Int32 × qm_F)), ve_leastRefuter_L2 F nR nN nT gg n φ x1 x2 = some r → qm_Rn d 277 2 [.ref 25, .int x1, .int x2] [] (cs nR nN nT gg X ρ φ) (some (.int r.1), cs nR nN nT gg X ρ r.2) := by
  obtain ⟨d, rfl⟩ : ∃ e, d = e + 1 := ⟨d - 1, by omega⟩
  have hC := qC_277
  intro n
  induction n with
  | zero => intro φ x1 x2 r hs; simp [ve_leastRefuter_L2] at hs
  | succ n ih =>
    intro φ x1 x2 r hs
    rw [ve_leastRefuter_L2] at hs
    refine qr_s hC (n := 3) (pc' := 7) (ls' := [.ref 25, .int x1, .int x2]) (st' := [.int (φ 25 1), .int x2]) (h' := cs nR nN nT gg X ρ φ) rfl ?_
    refine qr_ge2 (tgt := 27) hC rfl (by decide) rfl (fun hc => ?_) (fun hc => ?_)
    · rw [if_pos hc] at hs
      refine qr_s hC (n := 1) (pc' := 28) (ls' := [.ref 25, .int x1, .int x2]) (st' := [.int (-1)]) (h' := cs nR nN nT gg X ρ φ) rfl ?_
      have hs := Option.some.inj hs
      subst hs
      exact qr_r hC rfl rfl
    · rw [if_neg hc] at hs
      refine qr_s hC (n := 3) (pc' := 13) (ls' := [.ref 25, .int x1, .int x2]) (st' := [.int x2, .int x1, .ref 25]) (h' := cs nR nN nT gg X ρ φ) rfl ?_
      obtain ⟨y1, φ1, hy, hs⟩ := qb2_s hs
      refine qr_c (j := 276) (as := [.ref 25, .int x1, .int x2]) (rest := []) (v := some (.int y1)) (h1 := cs nR nN nT gg X ρ φ1) hC rfl rfl qC_276 rfl rfl (ve_verdictOf_n F d nR nN nT gg X ρ φ x1 x2 _ (by omega) hy) ?_
      show qm_Rn (d + 1) 277 16 [.ref 25, .int x1, .int x2] [.int y1] (cs nR nN nT gg X ρ φ1) _
      refine qr_eq1 (tgt := 21) hC rfl (by decide) rfl (fun hc => ?_) (fun hc => ?_)
      · rw [if_pos hc] at hs
        refine qr_s hC (n := 2) (pc' := 2) (ls' := [.ref 25, .int x1, .int (x2 + 1)]) (st' := []) (h' := cs nR nN nT gg X ρ φ1) rfl ?_
        exact ih φ1 x1 (x2 + 1) _ hs
      · rw [if_neg hc] at hs
        refine qr_s hC (n := 1) (pc' := 20) (ls' := [.ref 25, .int x1, .int x2]) (st' := [.int x2]) (h' := cs nR nN nT gg X ρ φ1) rfl ?_
        have hs := Option.some.inj hs
        subst hs
        exact qr_r hC rfl rfl
set_option maxRecDepth 100000 in
theorem ve_leastRefuter_n (F d : Nat) (nR nN nT gg : Nat) (X : List (Nat × Nat)) (ρ : Nat → Nat → Option Nat) (φ : qm_F) (x1 : Int32) (r : (Int32 × qm_F)) (hd : 4 ≤ d) (hs : ve_leastRefuter F nR nN nT gg φ x1 = some r) : qm_Rn d 277 0 [.ref 25, .int x1, .retAddr 0] [] (cs nR nN nT gg X ρ φ) (some (.int r.1), cs nR nN nT gg X ρ r.2) := by
  obtain ⟨d, rfl⟩ : ∃ e, d = e + 1 := ⟨d - 1, by omega⟩
  have hC := qC_277
  unfold ve_leastRefuter at hs
  refine qr_s hC (n := 2) (pc' := 2) (ls' := [.ref 25, .int x1, .int 0]) (st' := []) (h' := cs nR nN nT gg X ρ φ) rfl ?_
  exact ve_leastRefuter_L2_n F (d + 1) nR nN nT gg X ρ (by omega) F φ x1 0 _ hs
/-- SketchFiller.refuter(I)I -/
def sf_refuter (F : Nat) (nR nN nT gg : Nat) (φ : qm_F) (x1 : Int32) : Option (Int32 × qm_F) :=
  qb1 (pr_hasGuess F nR nN nT φ x1) fun y1 =>
  if ¬ y1 = 0 then
    qb2 (ve_leastRefuter F nR nN nT gg φ x1) fun y2 φ1 =>
    some (y2, φ1)
  else
    some ((-2), φ)
set_option maxRecDepth 100000 in
theorem sf_refuter_n (F d : Nat) (nR nN nT gg : Nat) (X : List (Nat × Nat)) (ρ : Nat → Nat → Option Nat) (φ : qm_F) (x1 : Int32) (r : (Int32 × qm_F)) (hd : 5 ≤ d) (hs : sf_refuter F nR nN nT gg φ x1 = some r) : qm_Rn d 10 0 [.ref 0, .int x1] [] (cs nR nN nT gg X ρ φ) (some (.int r.1), cs nR nN nT gg X ρ r.2) := by
  obtain ⟨d, rfl⟩ : ∃ e, d = e + 1 := ⟨d - 1, by omega⟩
  have hC := qC_10
  unfold sf_refuter at hs
  refine qr_s hC (n := 7) (pc' := 15) (ls' := [.ref 0, .int x1]) (st' := [.int x1, .ref 14]) (h' := cs nR nN nT gg X ρ φ) rfl ?_
  obtain ⟨y1, hy, hs⟩ := qb1_s hs
  refine qr_c (j := 204) (as := [.ref 14, .int x1]) (rest := []) (v := some (.int y1)) (h1 := cs nR nN nT gg X ρ φ) hC rfl rfl qC_204 rfl rfl (pr_hasGuess_n F d nR nN nT (cr_X gg (cs_X gg X)) (cr_R (cs_R ρ)) φ x1 _ (by omega) hy) ?_
  show qm_Rn (d + 1) 10 18 [.ref 0, .int x1] [.int y1] (cs nR nN nT gg X ρ φ) _
  refine qr_ne1 (tgt := 24) hC rfl (by decide) rfl (fun hc => ?_) (fun hc => ?_)
  · rw [if_pos hc] at hs
    refine qr_s hC (n := 4) (pc' := 32) (ls' := [.ref 0, .int x1]) (st' := [.int x1, .ref 25]) (h' := cs nR nN nT gg X ρ φ) rfl ?_
    obtain ⟨y2, φ1, hy, hs⟩ := qb2_s hs
    refine qr_c (j := 277) (as := [.ref 25, .int x1]) (rest := []) (v := some (.int y2)) (h1 := cs nR nN nT gg X ρ φ1) hC rfl rfl qC_277 rfl rfl (ve_leastRefuter_n F d nR nN nT gg X ρ φ x1 _ (by omega) hy) ?_
    show qm_Rn (d + 1) 10 35 [.ref 0, .int x1] [.int y2] (cs nR nN nT gg X ρ φ1) _
    have hs := Option.some.inj hs
    subst hs
    exact qr_r hC rfl rfl
  · rw [if_neg hc] at hs
    refine qr_s hC (n := 1) (pc' := 23) (ls' := [.ref 0, .int x1]) (st' := [.int (-2)]) (h' := cs nR nN nT gg X ρ φ) rfl ?_
    have hs := Option.some.inj hs
    subst hs
    exact qr_r hC rfl rfl
/-- SketchFiller$Program.guessAt(I)I -/
def pr_guessAt (F : Nat) (nR nN nT gg : Nat) (φ : qm_F) (x1 : Int32) : Option Int32 :=
  if x1 < 0 then
    some (-1)
  else
    qg (decide (gg < 2147483648)) <|
    if (Int32.ofNat gg) ≤ x1 then
      some (-1)
    else
      qg (qm_in x1 gg) <|
      some (φ 24 x1.toNatClampNeg)
set_option maxRecDepth 100000 in
theorem pr_guessAt_n (F d : Nat) (nR nN nT gg : Nat) (X : List (Nat × Nat)) (ρ : Nat → Nat → Option Nat) (φ : qm_F) (x1 : Int32) (r : Int32) (hd : 0 ≤ d) (hs : pr_guessAt F nR nN nT gg φ x1 = some r) : qm_Rn d 213 0 [.ref 14, .int x1] [] (cr nR nN nT gg X ρ φ) (some (.int r), cr nR nN nT gg X ρ φ) := by
  have hC := qC_213
  unfold pr_guessAt at hs
  refine qr_s hC (n := 1) (pc' := 1) (ls' := [.ref 14, .int x1]) (st' := [.int x1]) (h' := cr nR nN nT gg X ρ φ) rfl ?_
  refine qr_lt1 (tgt := 22) hC rfl (by decide) rfl (fun hc => ?_) (fun hc => ?_)
  · rw [if_pos hc] at hs
    refine qr_s hC (n := 1) (pc' := 23) (ls' := [.ref 14, .int x1]) (st' := [.int (-1)]) (h' := cr nR nN nT gg X ρ φ) rfl ?_
    have hs := Option.some.inj hs
    subst hs
    exact qr_r hC rfl rfl
  · rw [if_neg hc] at hs
    refine qr_s hC (n := 3) (pc' := 9) (ls' := [.ref 14, .int x1]) (st' := [.ref 24, .int x1]) (h' := cr nR nN nT gg X ρ φ) rfl ?_
    obtain ⟨hq, hs⟩ := qg_s hs
    refine qr_al hC rfl rfl hq ?_
    refine qr_ge2 (tgt := 22) hC rfl (by decide) rfl (fun hc => ?_) (fun hc => ?_)
    · rw [if_pos hc] at hs
      refine qr_s hC (n := 1) (pc' := 23) (ls' := [.ref 14, .int x1]) (st' := [.int (-1)]) (h' := cr nR nN nT gg X ρ φ) rfl ?_
      have hs := Option.some.inj hs
      subst hs
      exact qr_r hC rfl rfl
    · rw [if_neg hc] at hs
      refine qr_s hC (n := 3) (pc' := 18) (ls' := [.ref 14, .int x1]) (st' := [.int x1, .ref 24]) (h' := cr nR nN nT gg X ρ φ) rfl ?_
      obtain ⟨hq, hs⟩ := qg_s hs
      refine qr_ia (v := φ 24 x1.toNatClampNeg) hC rfl rfl hq rfl ?_
      refine qr_s hC (n := 1) (pc' := 23) (ls' := [.ref 14, .int x1]) (st' := [.int (φ 24 x1.toNatClampNeg)]) (h' := cr nR nN nT gg X ρ φ) rfl ?_
      have hs := Option.some.inj hs
      subst hs
      exact qr_r hC rfl rfl
/-- SketchFiller$Search.isOut(I)Z -/
def se_isOut_L2 (F : Nat) (nR nN nT gg : Nat) : Nat → qm_F → Int32 → Int32 → Option Int32
  | 0, _, _, _ => none
  | n + 1, φ, x1, x2 =>
    if (φ 14 2) ≤ x2 then
      some 0
    else
      if 5 ≤ x2 then
        some 0
      else
        qg (qm_in x2 5) <|
        if (φ 31 x2.toNatClampNeg) = (-1) then
          se_isOut_L2 F nR nN nT gg n φ x1 (x2 + 1)
        else
          qg (qm_in x2 5) <|
          qb1 (pr_valueOf F nR nN nT φ x1 x2) fun y1 =>
          if (φ 31 x2.toNatClampNeg) = y1 then
            se_isOut_L2 F nR nN nT gg n φ x1 (x2 + 1)
          else
            some 1
def se_isOut (F : Nat) (nR nN nT gg : Nat) (φ : qm_F) (x1 : Int32) : Option Int32 :=
  se_isOut_L2 F nR nN nT gg F φ x1 0
set_option maxRecDepth 100000 in
theorem se_isOut_L2_n (F d : Nat) (nR nN nT gg : Nat) (X : List (Nat × Nat)) (ρ : Nat → Nat → Option Nat) (hd : 2 ≤ d) : ∀ (n : Nat) (φ : qm_F) (x1 : Int32) (x2 : Int32) (r : Int32), se_isOut_L2 F nR nN nT gg n φ x1 x2 = some r → qm_Rn d 237 2 [.ref 30, .int x1, .int x2] [] (cs nR nN nT gg X ρ φ) (some (.int r), cs nR nN nT gg X ρ φ) := by
  obtain ⟨d, rfl⟩ : ∃ e, d = e + 1 := ⟨d - 1, by omega⟩
  have hC := qC_237
  intro n
  induction n with
  | zero => intro φ x1 x2 r hs; simp [se_isOut_L2] at hs
  | succ n ih =>
    intro φ x1 x2 r hs
    rw [se_isOut_L2] at hs
    refine qr_s hC (n := 4) (pc' := 10) (ls' := [.ref 30, .int x1, .int x2]) (st' := [.int (φ 14 2), .int x2]) (h' := cs nR nN nT gg X ρ φ) rfl ?_
    refine qr_ge2 (tgt := 58) hC rfl (by decide) rfl (fun hc => ?_) (fun hc => ?_)
    · rw [if_pos hc] at hs
      refine qr_s hC (n := 1) (pc' := 59) (ls' := [.ref 30, .int x1, .int x2]) (st' := [.int 0]) (h' := cs nR nN nT gg X ρ φ) rfl ?_
      have hs := Option.some.inj hs
      subst hs
      exact qr_r hC rfl rfl
    · rw [if_neg hc] at hs
      refine qr_s hC (n := 4) (pc' := 19) (ls' := [.ref 30, .int x1, .int x2]) (st' := [.int 5, .int x2]) (h' := cs nR nN nT gg X ρ φ) rfl ?_
      refine qr_ge2 (tgt := 58) hC rfl (by decide) rfl (fun hc => ?_) (fun hc => ?_)
      · rw [if_pos hc] at hs
        refine qr_s hC (n := 1) (pc' := 59) (ls' := [.ref 30, .int x1, .int x2]) (st' := [.int 0]) (h' := cs nR nN nT gg X ρ φ) rfl ?_
        have hs := Option.some.inj hs
        subst hs
        exact qr_r hC rfl rfl
      · rw [if_neg hc] at hs
        refine qr_s hC (n := 3) (pc' := 27) (ls' := [.ref 30, .int x1, .int x2]) (st' := [.int x2, .ref 31]) (h' := cs nR nN nT gg X ρ φ) rfl ?_
        obtain ⟨hq, hs⟩ := qg_s hs
        refine qr_ia (v := φ 31 x2.toNatClampNeg) hC rfl rfl hq rfl ?_
        refine qr_s hC (n := 1) (pc' := 29) (ls' := [.ref 30, .int x1, .int x2]) (st' := [.int (-1), .int (φ 31 x2.toNatClampNeg)]) (h' := cs nR nN nT gg X ρ φ) rfl ?_
        refine qr_eq2 (tgt := 52) hC rfl (by decide) rfl (fun hc => ?_) (fun hc => ?_)
        · rw [if_pos hc] at hs
          refine qr_s hC (n := 2) (pc' := 2) (ls' := [.ref 30, .int x1, .int (x2 + 1)]) (st' := []) (h' := cs nR nN nT gg X ρ φ) rfl ?_
          exact ih φ x1 (x2 + 1) _ hs
        · rw [if_neg hc] at hs
          refine qr_s hC (n := 3) (pc' := 37) (ls' := [.ref 30, .int x1, .int x2]) (st' := [.int x2, .ref 31]) (h' := cs nR nN nT gg X ρ φ) rfl ?_
          obtain ⟨hq, hs⟩ := qg_s hs
          refine qr_ia (v := φ 31 x2.toNatClampNeg) hC rfl rfl hq rfl ?_
          refine qr_s hC (n := 4) (pc' := 44) (ls' := [.ref 30, .int x1, .int x2]) (st' := [.int x2, .int x1, .ref 14, .int (φ 31 x2.toNatClampNeg)]) (h' := cs nR nN nT gg X ρ φ) rfl ?_
          obtain ⟨y1, hy, hs⟩ := qb1_s hs
          refine qr_c (j := 208) (as := [.ref 14, .int x1, .int x2]) (rest := [.int (φ 31 x2.toNatClampNeg)]) (v := some (.int y1)) (h1 := cs nR nN nT gg X ρ φ) hC rfl rfl qC_208 rfl rfl (pr_valueOf_n F d nR nN nT (cr_X gg (cs_X gg X)) (cr_R (cs_R ρ)) φ x1 x2 _ (by omega) hy) ?_
          show qm_Rn (d + 1) 237 47 [.ref 30, .int x1, .int x2] [.int y1, .int (φ 31 x2.toNatClampNeg)] (cs nR nN nT gg X ρ φ) _
          refine qr_eq2 (tgt := 52) hC rfl (by decide) rfl (fun hc => ?_) (fun hc => ?_)
          · rw [if_pos hc] at hs
            refine qr_s hC (n := 2) (pc' := 2) (ls' := [.ref 30, .int x1, .int (x2 + 1)]) (st' := []) (h' := cs nR nN nT gg X ρ φ) rfl ?_
            exact ih φ x1 (x2 + 1) _ hs
          · rw [if_neg hc] at hs
            refine qr_s hC (n := 1) (pc' := 51) (ls' := [.ref 30, .int x1, .int x2]) (st' := [.int 1]) (h' := cs nR nN nT gg X ρ φ) rfl ?_
            have hs := Option.some.inj hs
            subst hs
            exact qr_r hC rfl rfl
set_option maxRecDepth 100000 in
theorem se_isOut_n (F d : Nat) (nR nN nT gg : Nat) (X : List (Nat × Nat)) (ρ : Nat → Nat → Option Nat) (φ : qm_F) (x1 : Int32) (r : Int32) (hd : 2 ≤ d) (hs : se_isOut F nR nN nT gg φ x1 = some r) : qm_Rn d 237 0 [.ref 30, .int x1, .retAddr 0] [] (cs nR nN nT gg X ρ φ) (some (.int r), cs nR nN nT gg X ρ φ) := by
  obtain ⟨d, rfl⟩ : ∃ e, d = e + 1 := ⟨d - 1, by omega⟩
  have hC := qC_237
  unfold se_isOut at hs
  refine qr_s hC (n := 2) (pc' := 2) (ls' := [.ref 30, .int x1, .int 0]) (st' := []) (h' := cs nR nN nT gg X ρ φ) rfl ?_
  exact se_isOut_L2_n F (d + 1) nR nN nT gg X ρ (by omega) F φ x1 0 _ hs
/-- SketchFiller$Search.isLeft(IJ)Z -/
def se_isLeft_L13 (F : Nat) (nR nN nT gg : Nat) : Nat → Nat → qm_F → Int32 → Int64 → Int32 → Int32 → Option (Int32 × qm_F)
  | 0, _, _, _, _, _, _ => none
  | n + 1, t, φ, x1, x2, x4, s0 =>
    if t = 0 then
      if (φ 30 5) ≤ x4 then
        some (1, φ)
      else
        if 40 ≤ x4 then
          some (1, φ)
        else
          if (lg_cmp (((Int64.toUInt64 x2 >>> ((Int32.toInt64 x4).toUInt64 &&& Int64.toUInt64 63)).toInt64) &&& 1) 0) = 0 then
            se_isLeft_L13 F nR nN nT gg n 1 φ x1 x2 x4 0
          else
            se_isLeft_L13 F nR nN nT gg n 1 φ x1 x2 x4 1
    else
    if s0 = 0 then
      se_isLeft_L13 F nR nN nT gg n 0 φ x1 x2 (x4 + 1) 0
    else
      qg (qm_in x4 40) <|
      qb2 (ve_verdictOf F nR nN nT gg φ x1 (φ 32 x4.toNatClampNeg)) fun y1 φ1 =>
      if y1 = 0 then
        se_isLeft_L13 F nR nN nT gg n 0 φ1 x1 x2 (x4 + 1) 0
      else
        some (0, φ1)
def se_isLeft (F : Nat) (nR nN nT gg : Nat) (φ : qm_F) (x1 : Int32) (x2 : Int64) : Option (Int32 × qm_F) :=
  qb1 (se_isOut F nR nN nT gg φ x1) fun y1 =>
  if y1 = 0 then
    se_isLeft_L13 F nR nN nT gg F 0 φ x1 x2 0 0
  else
    some (0, φ)
set_option maxRecDepth 100000 in
theorem se_isLeft_L13_n0 (F d : Nat) (nR nN nT gg : Nat) (X : List (Nat × Nat)) (ρ : Nat → Nat → Option Nat) (hd : 4 ≤ d) : ∀ (n t : Nat) (φ : qm_F) (x1 : Int32) (x2 : Int64) (x4 : Int32) (s0 : Int32) (r : (Int32 × qm_F)), se_isLeft_L13 F nR nN nT gg n t φ x1 x2 x4 s0 = some r → (t = 0 → qm_Rn d 238 13 [.ref 30, .int x1, .long x2, .retAddr 0, .int x4, .retAddr 0] [] (cs nR nN nT gg X ρ φ) (some (.int r.1), cs nR nN nT gg X ρ r.2)) ∧ (t ≠ 0 → qm_Rn d 238 48 [.ref 30, .int x1, .long x2, .retAddr 0, .int x4, .retAddr 0] [.int s0] (cs nR nN nT gg X ρ φ) (some (.int r.1), cs nR nN nT gg X ρ r.2)) := by
  obtain ⟨d, rfl⟩ : ∃ e, d = e + 1 := ⟨d - 1, by omega⟩
  have hC := qC_238
  intro n
  induction n with
  | zero => intro t φ x1 x2 x4 s0 r hs; simp [se_isLeft_L13] at hs
  | succ n ihh =>
    intro t φ x1 x2 x4 s0 r hs
    rw [se_isLeft_L13] at hs
    have ih0 : ∀ (φ : qm_F) (x1 : Int32) (x2 : Int64) (x4 : Int32) (s0 : Int32) (r : (Int32 × qm_F)), se_isLeft_L13 F nR nN nT gg n 0 φ x1 x2 x4 s0 = some r → _ := fun φ x1 x2 x4 s0 r q => (ihh 0 φ x1 x2 x4 s0 r q).1 rfl
    have ih1 : ∀ (φ : qm_F) (x1 : Int32) (x2 : Int64) (x4 : Int32) (s0 : Int32) (r : (Int32 × qm_F)), se_isLeft_L13 F nR nN nT gg n 1 φ x1 x2 x4 s0 = some r → _ := fun φ x1 x2 x4 s0 r q => (ihh 1 φ x1 x2 x4 s0 r q).2 (by decide)
    refine ⟨fun ht => ?_, fun ht => ?_⟩
    · subst ht
      rw [if_pos rfl] at hs
      refine qr_s hC (n := 3) (pc' := 19) (ls' := [.ref 30, .int x1, .long x2, .retAddr 0, .int x4, .retAddr 0]) (st' := [.int (φ 30 5), .int x4]) (h' := cs nR nN nT gg X ρ φ) rfl ?_
      refine qr_ge2 (tgt := 81) hC rfl (by decide) rfl (fun hc => ?_) (fun hc => ?_)
      · rw [if_pos hc] at hs
        refine qr_s hC (n := 1) (pc' := 82) (ls' := [.ref 30, .int x1, .long x2, .retAddr 0, .int x4, .retAddr 0]) (st' := [.int 1]) (h' := cs nR nN nT gg X ρ φ) rfl ?_
        have hs := Option.some.inj hs
        subst hs
        exact qr_r hC rfl rfl
      · rw [if_neg hc] at hs
        refine qr_s hC (n := 4) (pc' := 29) (ls' := [.ref 30, .int x1, .long x2, .retAddr 0, .int x4, .retAddr 0]) (st' := [.int 40, .int x4]) (h' := cs nR nN nT gg X ρ φ) rfl ?_
        refine qr_ge2 (tgt := 81) hC rfl (by decide) rfl (fun hc => ?_) (fun hc => ?_)
        · rw [if_pos hc] at hs
          refine qr_s hC (n := 1) (pc' := 82) (ls' := [.ref 30, .int x1, .long x2, .retAddr 0, .int x4, .retAddr 0]) (st' := [.int 1]) (h' := cs nR nN nT gg X ρ φ) rfl ?_
          have hs := Option.some.inj hs
          subst hs
          exact qr_r hC rfl rfl
        · rw [if_neg hc] at hs
          refine qr_s hC (n := 7) (pc' := 40) (ls' := [.ref 30, .int x1, .long x2, .retAddr 0, .int x4, .retAddr 0]) (st' := [.int (lg_cmp (((Int64.toUInt64 x2 >>> ((Int32.toInt64 x4).toUInt64 &&& Int64.toUInt64 63)).toInt64) &&& 1) 0)]) (h' := cs nR nN nT gg X ρ φ) rfl ?_
          refine qr_eq1 (tgt := 47) hC rfl (by decide) rfl (fun hc => ?_) (fun hc => ?_)
          · rw [if_pos hc] at hs
            refine qr_s hC (n := 1) (pc' := 48) (ls' := [.ref 30, .int x1, .long x2, .retAddr 0, .int x4, .retAddr 0]) (st' := [.int 0]) (h' := cs nR nN nT gg X ρ φ) rfl ?_
            exact (ih1 φ x1 x2 x4 0 _ hs)
          · rw [if_neg hc] at hs
            refine qr_s hC (n := 2) (pc' := 48) (ls' := [.ref 30, .int x1, .long x2, .retAddr 0, .int x4, .retAddr 0]) (st' := [.int 1]) (h' := cs nR nN nT gg X ρ φ) rfl ?_
            exact (ih1 φ x1 x2 x4 1 _ hs)
    · have ht0 := ht
      rw [if_neg ht0] at hs
      refine qr_s hC (n := 2) (pc' := 52) (ls' := [.ref 30, .int x1, .long x2, .retAddr 0, .int x4, .int s0]) (st' := [.int s0]) (h' := cs nR nN nT gg X ρ φ) rfl ?_
      refine qr_eq1 (tgt := 75) hC rfl (by decide) rfl (fun hc => ?_) (fun hc => ?_)
      · rw [if_pos hc] at hs
        refine qr_s hC (n := 2) (pc' := 13) (ls' := [.ref 30, .int x1, .long x2, .retAddr 0, .int (x4 + 1), .int s0]) (st' := []) (h' := cs nR nN nT gg X ρ φ) rfl ?_
        exact qr_w (a := [.ref 30, .int x1, .long x2, .retAddr 0, .int (x4 + 1), .retAddr 0]) ⟨Or.inr rfl, Or.inr rfl, Or.inr rfl, Or.inr rfl, Or.inr rfl, Or.inl rfl, trivial⟩ (ih0 φ x1 x2 (x4 + 1) 0 _ hs)
      · rw [if_neg hc] at hs
        refine qr_s hC (n := 6) (pc' := 66) (ls' := [.ref 30, .int x1, .long x2, .retAddr 0, .int x4, .int s0]) (st' := [.int x4, .ref 32, .int x1, .ref 25]) (h' := cs nR nN nT gg X ρ φ) rfl ?_
        obtain ⟨hq, hs⟩ := qg_s hs
        refine qr_ia (v := φ 32 x4.toNatClampNeg) hC rfl rfl hq rfl ?_
        obtain ⟨y1, φ1, hy, hs⟩ := qb2_s hs
        refine qr_c (j := 276) (as := [.ref 25, .int x1, .int (φ 32 x4.toNatClampNeg)]) (rest := []) (v := some (.int y1)) (h1 := cs nR nN nT gg X ρ φ1) hC rfl rfl qC_276 rfl rfl (ve_verdictOf_n F d nR nN nT gg X ρ φ x1 (φ 32 x4.toNatClampNeg) _ (by omega) hy) ?_
        show qm_Rn (d + 1) 238 70 [.ref 30, .int x1, .long x2, .retAddr 0, .int x4, .int s0] [.int y1] (cs nR nN nT gg X ρ φ1) _
        refine qr_eq1 (tgt := 75) hC rfl (by decide) rfl (fun hc => ?_) (fun hc => ?_)
        · rw [if_pos hc] at hs
          refine qr_s hC (n := 2) (pc' := 13) (ls' := [.ref 30, .int x1, .long x2, .retAddr 0, .int (x4 + 1), .int s0]) (st' := []) (h' := cs nR nN nT gg X ρ φ1) rfl ?_
          exact qr_w (a := [.ref 30, .int x1, .long x2, .retAddr 0, .int (x4 + 1), .retAddr 0]) ⟨Or.inr rfl, Or.inr rfl, Or.inr rfl, Or.inr rfl, Or.inr rfl, Or.inl rfl, trivial⟩ (ih0 φ1 x1 x2 (x4 + 1) 0 _ hs)
        · rw [if_neg hc] at hs
          refine qr_s hC (n := 1) (pc' := 74) (ls' := [.ref 30, .int x1, .long x2, .retAddr 0, .int x4, .int s0]) (st' := [.int 0]) (h' := cs nR nN nT gg X ρ φ1) rfl ?_
          have hs := Option.some.inj hs
          subst hs
          exact qr_r hC rfl rfl
theorem se_isLeft_L13_n_t0 (F d : Nat) (nR nN nT gg : Nat) (X : List (Nat × Nat)) (ρ : Nat → Nat → Option Nat) (hd : 4 ≤ d) (n : Nat) (φ : qm_F) (x1 : Int32) (x2 : Int64) (x4 : Int32) (s0 : Int32) (r : (Int32 × qm_F)) (hs : se_isLeft_L13 F nR nN nT gg n 0 φ x1 x2 x4 s0 = some r) : qm_Rn d 238 13 [.ref 30, .int x1, .long x2, .retAddr 0, .int x4, .retAddr 0] [] (cs nR nN nT gg X ρ φ) (some (.int r.1), cs nR nN nT gg X ρ r.2) := (se_isLeft_L13_n0 F d nR nN nT gg X ρ hd n 0 φ x1 x2 x4 s0 r hs).1 rfl
theorem se_isLeft_L13_n_t1 (F d : Nat) (nR nN nT gg : Nat) (X : List (Nat × Nat)) (ρ : Nat → Nat → Option Nat) (hd : 4 ≤ d) (n : Nat) (φ : qm_F) (x1 : Int32) (x2 : Int64) (x4 : Int32) (s0 : Int32) (r : (Int32 × qm_F)) (hs : se_isLeft_L13 F nR nN nT gg n 1 φ x1 x2 x4 s0 = some r) : qm_Rn d 238 48 [.ref 30, .int x1, .long x2, .retAddr 0, .int x4, .retAddr 0] [.int s0] (cs nR nN nT gg X ρ φ) (some (.int r.1), cs nR nN nT gg X ρ r.2) := (se_isLeft_L13_n0 F d nR nN nT gg X ρ hd n 1 φ x1 x2 x4 s0 r hs).2 (by decide)
set_option maxRecDepth 100000 in
theorem se_isLeft_n (F d : Nat) (nR nN nT gg : Nat) (X : List (Nat × Nat)) (ρ : Nat → Nat → Option Nat) (φ : qm_F) (x1 : Int32) (x2 : Int64) (r : (Int32 × qm_F)) (hd : 4 ≤ d) (hs : se_isLeft F nR nN nT gg φ x1 x2 = some r) : qm_Rn d 238 0 [.ref 30, .int x1, .long x2, .retAddr 0, .retAddr 0, .retAddr 0] [] (cs nR nN nT gg X ρ φ) (some (.int r.1), cs nR nN nT gg X ρ r.2) := by
  obtain ⟨d, rfl⟩ : ∃ e, d = e + 1 := ⟨d - 1, by omega⟩
  have hC := qC_238
  unfold se_isLeft at hs
  refine qr_s hC (n := 2) (pc' := 2) (ls' := [.ref 30, .int x1, .long x2, .retAddr 0, .retAddr 0, .retAddr 0]) (st' := [.int x1, .ref 30]) (h' := cs nR nN nT gg X ρ φ) rfl ?_
  obtain ⟨y1, hy, hs⟩ := qb1_s hs
  refine qr_c (j := 237) (as := [.ref 30, .int x1]) (rest := []) (v := some (.int y1)) (h1 := cs nR nN nT gg X ρ φ) hC rfl rfl qC_237 rfl rfl (se_isOut_n F d nR nN nT gg X ρ φ x1 _ (by omega) hy) ?_
  show qm_Rn (d + 1) 238 5 [.ref 30, .int x1, .long x2, .retAddr 0, .retAddr 0, .retAddr 0] [.int y1] (cs nR nN nT gg X ρ φ) _
  refine qr_eq1 (tgt := 10) hC rfl (by decide) rfl (fun hc => ?_) (fun hc => ?_)
  · rw [if_pos hc] at hs
    refine qr_s hC (n := 2) (pc' := 13) (ls' := [.ref 30, .int x1, .long x2, .retAddr 0, .int 0, .retAddr 0]) (st' := []) (h' := cs nR nN nT gg X ρ φ) rfl ?_
    exact (se_isLeft_L13_n_t0 F (d + 1) nR nN nT gg X ρ (by omega) F φ x1 x2 0 0 _ hs)
  · rw [if_neg hc] at hs
    refine qr_s hC (n := 1) (pc' := 9) (ls' := [.ref 30, .int x1, .long x2, .retAddr 0, .retAddr 0, .retAddr 0]) (st' := [.int 0]) (h' := cs nR nN nT gg X ρ φ) rfl ?_
    have hs := Option.some.inj hs
    subst hs
    exact qr_r hC rfl rfl
/-- SketchFiller$Search.toGuess()I -/
def se_toGuess_L19 (F : Nat) (nR nN nT gg : Nat) : Nat → qm_F → Int32 → Option (Int32 × qm_F)
  | 0, _, _ => none
  | n + 1, φ, x1 =>
    qb1 (pr_guesses F nR nN nT φ) fun y1 =>
    if y1 ≤ x1 then
      some ((-2), (qm_u φ 30 7 2))
    else
      qb1 (pr_guessAt F nR nN nT gg φ x1) fun y2 =>
      qb2 (se_isLeft F nR nN nT gg φ y2 (-1)) fun y3 φ1 =>
      if y3 = 0 then
        se_toGuess_L19 F nR nN nT gg n φ1 (x1 + 1)
      else
        some (y2, (qm_u φ1 30 8 y2))
def se_toGuess (F : Nat) (nR nN nT gg : Nat) (φ : qm_F) : Option (Int32 × qm_F) :=
  if ¬ (φ 30 7) = 0 then
    some ((-1), φ)
  else
    if (φ 30 8) = (-1) then
      se_toGuess_L19 F nR nN nT gg F φ 0
    else
      some ((-1), φ)
set_option maxRecDepth 100000 in
theorem se_toGuess_L19_n (F d : Nat) (nR nN nT gg : Nat) (X : List (Nat × Nat)) (ρ : Nat → Nat → Option Nat) (hd : 5 ≤ d) : ∀ (n : Nat) (φ : qm_F) (x1 : Int32) (r : (Int32 × qm_F)), se_toGuess_L19 F nR nN nT gg n φ x1 = some r → qm_Rn d 235 19 [.ref 30, .int x1, .retAddr 0] [] (cs nR nN nT gg X ρ φ) (some (.int r.1), cs nR nN nT gg X ρ r.2) := by
  obtain ⟨d, rfl⟩ : ∃ e, d = e + 1 := ⟨d - 1, by omega⟩
  have hC := qC_235
  intro n
  induction n with
  | zero => intro φ x1 r hs; simp [se_toGuess_L19] at hs
  | succ n ih =>
    intro φ x1 r hs
    rw [se_toGuess_L19] at hs
    refine qr_s hC (n := 3) (pc' := 24) (ls' := [.ref 30, .int x1, .retAddr 0]) (st' := [.ref 14, .int x1]) (h' := cs nR nN nT gg X ρ φ) rfl ?_
    obtain ⟨y1, hy, hs⟩ := qb1_s hs
    refine qr_c (j := 201) (as := [.ref 14]) (rest := [.int x1]) (v := some (.int y1)) (h1 := cs nR nN nT gg X ρ φ) hC rfl rfl qC_201 rfl rfl (pr_guesses_n F d nR nN nT (cr_X gg (cs_X gg X)) (cr_R (cs_R ρ)) φ _ (by omega) hy) ?_
    show qm_Rn (d + 1) 235 27 [.ref 30, .int x1, .retAddr 0] [.int y1, .int x1] (cs nR nN nT gg X ρ φ) _
    refine qr_ge2 (tgt := 66) hC rfl (by decide) rfl (fun hc => ?_) (fun hc => ?_)
    · rw [if_pos hc] at hs
      refine qr_s hC (n := 4) (pc' := 73) (ls' := [.ref 30, .int x1, .retAddr 0]) (st' := [.int (-2)]) (h' := cs nR nN nT gg X ρ (qm_u φ 30 7 2)) rfl ?_
      have hs := Option.some.inj hs
      subst hs
      exact qr_r hC rfl rfl
    · rw [if_neg hc] at hs
      refine qr_s hC (n := 3) (pc' := 35) (ls' := [.ref 30, .int x1, .retAddr 0]) (st' := [.int x1, .ref 14]) (h' := cs nR nN nT gg X ρ φ) rfl ?_
      obtain ⟨y2, hy, hs⟩ := qb1_s hs
      refine qr_c (j := 213) (as := [.ref 14, .int x1]) (rest := []) (v := some (.int y2)) (h1 := cs nR nN nT gg X ρ φ) hC rfl rfl qC_213 rfl rfl (pr_guessAt_n F d nR nN nT gg (cs_X gg X) (cs_R ρ) φ x1 _ (by omega) hy) ?_
      show qm_Rn (d + 1) 235 38 [.ref 30, .int x1, .retAddr 0] [.int y2] (cs nR nN nT gg X ρ φ) _
      refine qr_s hC (n := 4) (pc' := 44) (ls' := [.ref 30, .int x1, .int y2]) (st' := [.long (-1), .int y2, .ref 30]) (h' := cs nR nN nT gg X ρ φ) rfl ?_
      obtain ⟨y3, φ1, hy, hs⟩ := qb2_s hs
      refine qr_c (j := 238) (as := [.ref 30, .int y2, .long (-1)]) (rest := []) (v := some (.int y3)) (h1 := cs nR nN nT gg X ρ φ1) hC rfl rfl qC_238 rfl rfl (se_isLeft_n F d nR nN nT gg X ρ φ y2 (-1) _ (by omega) hy) ?_
      show qm_Rn (d + 1) 235 47 [.ref 30, .int x1, .int y2] [.int y3] (cs nR nN nT gg X ρ φ1) _
      refine qr_eq1 (tgt := 60) hC rfl (by decide) rfl (fun hc => ?_) (fun hc => ?_)
      · rw [if_pos hc] at hs
        refine qr_s hC (n := 2) (pc' := 19) (ls' := [.ref 30, .int (x1 + 1), .int y2]) (st' := []) (h' := cs nR nN nT gg X ρ φ1) rfl ?_
        exact qr_w (a := [.ref 30, .int (x1 + 1), .retAddr 0]) ⟨Or.inr rfl, Or.inr rfl, Or.inl rfl, trivial⟩ (ih φ1 (x1 + 1) _ hs)
      · rw [if_neg hc] at hs
        refine qr_s hC (n := 5) (pc' := 59) (ls' := [.ref 30, .int x1, .int y2]) (st' := [.int y2]) (h' := cs nR nN nT gg X ρ (qm_u φ1 30 8 y2)) rfl ?_
        have hs := Option.some.inj hs
        subst hs
        exact qr_r hC rfl rfl
set_option maxRecDepth 100000 in
theorem se_toGuess_n (F d : Nat) (nR nN nT gg : Nat) (X : List (Nat × Nat)) (ρ : Nat → Nat → Option Nat) (φ : qm_F) (r : (Int32 × qm_F)) (hd : 5 ≤ d) (hs : se_toGuess F nR nN nT gg φ = some r) : qm_Rn d 235 0 [.ref 30, .retAddr 0, .retAddr 0] [] (cs nR nN nT gg X ρ φ) (some (.int r.1), cs nR nN nT gg X ρ r.2) := by
  obtain ⟨d, rfl⟩ : ∃ e, d = e + 1 := ⟨d - 1, by omega⟩
  have hC := qC_235
  unfold se_toGuess at hs
  refine qr_s hC (n := 2) (pc' := 4) (ls' := [.ref 30, .retAddr 0, .retAddr 0]) (st' := [.int (φ 30 7)]) (h' := cs nR nN nT gg X ρ φ) rfl ?_
  refine qr_ne1 (tgt := 15) hC rfl (by decide) rfl (fun hc => ?_) (fun hc => ?_)
  · rw [if_pos hc] at hs
    refine qr_s hC (n := 1) (pc' := 16) (ls' := [.ref 30, .retAddr 0, .retAddr 0]) (st' := [.int (-1)]) (h' := cs nR nN nT gg X ρ φ) rfl ?_
    have hs := Option.some.inj hs
    subst hs
    exact qr_r hC rfl rfl
  · rw [if_neg hc] at hs
    refine qr_s hC (n := 3) (pc' := 12) (ls' := [.ref 30, .retAddr 0, .retAddr 0]) (st' := [.int (-1), .int (φ 30 8)]) (h' := cs nR nN nT gg X ρ φ) rfl ?_
    refine qr_eq2 (tgt := 17) hC rfl (by decide) rfl (fun hc => ?_) (fun hc => ?_)
    · rw [if_pos hc] at hs
      refine qr_s hC (n := 2) (pc' := 19) (ls' := [.ref 30, .int 0, .retAddr 0]) (st' := []) (h' := cs nR nN nT gg X ρ φ) rfl ?_
      exact se_toGuess_L19_n F (d + 1) nR nN nT gg X ρ (by omega) F φ 0 _ hs
    · rw [if_neg hc] at hs
      refine qr_s hC (n := 1) (pc' := 16) (ls' := [.ref 30, .retAddr 0, .retAddr 0]) (st' := [.int (-1)]) (h' := cs nR nN nT gg X ρ φ) rfl ?_
      have hs := Option.some.inj hs
      subst hs
      exact qr_r hC rfl rfl
/-- SketchFiller.guess()I -/
def sf_guess (F : Nat) (nR nN nT gg : Nat) (φ : qm_F) : Option (Int32 × qm_F) :=
  qb2 (se_toGuess F nR nN nT gg φ) fun y1 φ1 =>
  some (y1, φ1)
set_option maxRecDepth 100000 in
theorem sf_guess_n (F d : Nat) (nR nN nT gg : Nat) (X : List (Nat × Nat)) (ρ : Nat → Nat → Option Nat) (φ : qm_F) (r : (Int32 × qm_F)) (hd : 6 ≤ d) (hs : sf_guess F nR nN nT gg φ = some r) : qm_Rn d 11 0 [.ref 0] [] (cs nR nN nT gg X ρ φ) (some (.int r.1), cs nR nN nT gg X ρ r.2) := by
  obtain ⟨d, rfl⟩ : ∃ e, d = e + 1 := ⟨d - 1, by omega⟩
  have hC := qC_11
  unfold sf_guess at hs
  refine qr_s hC (n := 5) (pc' := 15) (ls' := [.ref 0]) (st' := [.ref 30]) (h' := cs nR nN nT gg X ρ φ) rfl ?_
  obtain ⟨y1, φ1, hy, hs⟩ := qb2_s hs
  refine qr_c (j := 235) (as := [.ref 30]) (rest := []) (v := some (.int y1)) (h1 := cs nR nN nT gg X ρ φ1) hC rfl rfl qC_235 rfl rfl (se_toGuess_n F d nR nN nT gg X ρ φ _ (by omega) hy) ?_
  show qm_Rn (d + 1) 11 18 [.ref 0] [.int y1] (cs nR nN nT gg X ρ φ1) _
  have hs := Option.some.inj hs
  subst hs
  exact qr_r hC rfl rfl
/-- SketchFiller$Search.addKept(I)Z -/
def se_addKept (F : Nat) (nR nN nT gg : Nat) (φ : qm_F) (x1 : Int32) : Option (Int32 × qm_F) :=
  if (φ 30 5) < 0 then
    some (0, φ)
  else
    if (φ 30 5) < 40 then
      qg (qm_in (φ 30 5) 40) <|
      some (1, (qm_u (qm_u φ 32 ((φ 30 5).toNatClampNeg) x1) 30 5 ((φ 30 5) + 1)))
    else
      some (0, φ)
set_option maxRecDepth 100000 in
theorem se_addKept_n (F d : Nat) (nR nN nT gg : Nat) (X : List (Nat × Nat)) (ρ : Nat → Nat → Option Nat) (φ : qm_F) (x1 : Int32) (r : (Int32 × qm_F)) (hd : 0 ≤ d) (hs : se_addKept F nR nN nT gg φ x1 = some r) : qm_Rn d 231 0 [.ref 30, .int x1] [] (cs nR nN nT gg X ρ φ) (some (.int r.1), cs nR nN nT gg X ρ r.2) := by
  have hC := qC_231
  unfold se_addKept at hs
  refine qr_s hC (n := 2) (pc' := 4) (ls' := [.ref 30, .int x1]) (st' := [.int (φ 30 5)]) (h' := cs nR nN nT gg X ρ φ) rfl ?_
  refine qr_lt1 (tgt := 19) hC rfl (by decide) rfl (fun hc => ?_) (fun hc => ?_)
  · rw [if_pos hc] at hs
    refine qr_s hC (n := 1) (pc' := 20) (ls' := [.ref 30, .int x1]) (st' := [.int 0]) (h' := cs nR nN nT gg X ρ φ) rfl ?_
    have hs := Option.some.inj hs
    subst hs
    exact qr_r hC rfl rfl
  · rw [if_neg hc] at hs
    refine qr_s hC (n := 5) (pc' := 16) (ls' := [.ref 30, .int x1]) (st' := [.int 40, .int (φ 30 5)]) (h' := cs nR nN nT gg X ρ φ) rfl ?_
    refine qr_lt2 (tgt := 21) hC rfl (by decide) rfl (fun hc => ?_) (fun hc => ?_)
    · rw [if_pos hc] at hs
      refine qr_s hC (n := 5) (pc' := 30) (ls' := [.ref 30, .int x1]) (st' := [.int x1, .int (φ 30 5), .ref 32]) (h' := cs nR nN nT gg X ρ φ) rfl ?_
      obtain ⟨hq, hs⟩ := qg_s hs
      refine qr_is (h' := cs nR nN nT gg X ρ (qm_u φ 32 ((φ 30 5).toNatClampNeg) x1)) hC rfl rfl hq rfl ?_
      refine qr_s hC (n := 7) (pc' := 42) (ls' := [.ref 30, .int x1]) (st' := [.int 1]) (h' := cs nR nN nT gg X ρ (qm_u (qm_u φ 32 ((φ 30 5).toNatClampNeg) x1) 30 5 ((φ 30 5) + 1))) rfl ?_
      have hs := Option.some.inj hs
      subst hs
      exact qr_r hC rfl rfl
    · rw [if_neg hc] at hs
      refine qr_s hC (n := 1) (pc' := 20) (ls' := [.ref 30, .int x1]) (st' := [.int 0]) (h' := cs nR nN nT gg X ρ φ) rfl ?_
      have hs := Option.some.inj hs
      subst hs
      exact qr_r hC rfl rfl
/-- SketchFiller$Search.markLeft()V -/
def se_markLeft_L2 (F : Nat) (nR nN nT gg : Nat) : Nat → qm_F → Int32 → Option qm_F
  | 0, _, _ => none
  | n + 1, φ, x1 =>
    qg (decide (gg < 2147483648)) <|
    if (Int32.ofNat gg) ≤ x1 then
      some φ
    else
      qb2 (se_isLeft F nR nN nT gg φ x1 (-1)) fun y1 φ1 =>
      qg (qm_in x1 gg) <|
      qg (qm_bz y1) <|
      se_markLeft_L2 F nR nN nT gg n (qm_u φ1 33 x1.toNatClampNeg y1) (x1 + 1)
def se_markLeft (F : Nat) (nR nN nT gg : Nat) (φ : qm_F) : Option qm_F :=
  se_markLeft_L2 F nR nN nT gg F φ 0
set_option maxRecDepth 100000 in
theorem se_markLeft_L2_n (F d : Nat) (nR nN nT gg : Nat) (X : List (Nat × Nat)) (ρ : Nat → Nat → Option Nat) (hd : 5 ≤ d) : ∀ (n : Nat) (φ : qm_F) (x1 : Int32) (r : qm_F), se_markLeft_L2 F nR nN nT gg n φ x1 = some r → qm_Rn d 242 2 [.ref 30, .int x1] [] (cs nR nN nT gg X ρ φ) (none, cs nR nN nT gg X ρ r) := by
  obtain ⟨d, rfl⟩ : ∃ e, d = e + 1 := ⟨d - 1, by omega⟩
  have hC := qC_242
  intro n
  induction n with
  | zero => intro φ x1 r hs; simp [se_markLeft_L2] at hs
  | succ n ih =>
    intro φ x1 r hs
    rw [se_markLeft_L2] at hs
    refine qr_s hC (n := 3) (pc' := 7) (ls' := [.ref 30, .int x1]) (st' := [.ref 33, .int x1]) (h' := cs nR nN nT gg X ρ φ) rfl ?_
    obtain ⟨hq, hs⟩ := qg_s hs
    refine qr_al hC rfl rfl hq ?_
    refine qr_ge2 (tgt := 31) hC rfl (by decide) rfl (fun hc => ?_) (fun hc => ?_)
    · rw [if_pos hc] at hs
      have hs := Option.some.inj hs
      subst hs
      exact qr_r hC rfl rfl
    · rw [if_neg hc] at hs
      refine qr_s hC (n := 6) (pc' := 21) (ls' := [.ref 30, .int x1]) (st' := [.long (-1), .int x1, .ref 30, .int x1, .ref 33]) (h' := cs nR nN nT gg X ρ φ) rfl ?_
      obtain ⟨y1, φ1, hy, hs⟩ := qb2_s hs
      refine qr_c (j := 238) (as := [.ref 30, .int x1, .long (-1)]) (rest := [.int x1, .ref 33]) (v := some (.int y1)) (h1 := cs nR nN nT gg X ρ φ1) hC rfl rfl qC_238 rfl rfl (se_isLeft_n F d nR nN nT gg X ρ φ x1 (-1) _ (by omega) hy) ?_
      show qm_Rn (d + 1) 242 24 [.ref 30, .int x1] [.int y1, .int x1, .ref 33] (cs nR nN nT gg X ρ φ1) _
      obtain ⟨hq, hs⟩ := qg_s hs
      obtain ⟨hz, hs⟩ := qg_s hs
      refine qr_zs (h' := cs nR nN nT gg X ρ (qm_u φ1 33 x1.toNatClampNeg y1)) hC rfl rfl hq hz rfl ?_
      refine qr_s hC (n := 2) (pc' := 2) (ls' := [.ref 30, .int (x1 + 1)]) (st' := []) (h' := cs nR nN nT gg X ρ (qm_u φ1 33 x1.toNatClampNeg y1)) rfl ?_
      exact ih (qm_u φ1 33 x1.toNatClampNeg y1) (x1 + 1) _ hs
set_option maxRecDepth 100000 in
theorem se_markLeft_n (F d : Nat) (nR nN nT gg : Nat) (X : List (Nat × Nat)) (ρ : Nat → Nat → Option Nat) (φ : qm_F) (r : qm_F) (hd : 5 ≤ d) (hs : se_markLeft F nR nN nT gg φ = some r) : qm_Rn d 242 0 [.ref 30, .retAddr 0] [] (cs nR nN nT gg X ρ φ) (none, cs nR nN nT gg X ρ r) := by
  obtain ⟨d, rfl⟩ : ∃ e, d = e + 1 := ⟨d - 1, by omega⟩
  have hC := qC_242
  unfold se_markLeft at hs
  refine qr_s hC (n := 2) (pc' := 2) (ls' := [.ref 30, .int 0]) (st' := []) (h' := cs nR nN nT gg X ρ φ) rfl ?_
  exact se_markLeft_L2_n F (d + 1) nR nN nT gg X ρ (by omega) F φ 0 _ hs
/-- SketchFiller$Search.leftRefutedBy(I)I -/
def se_leftRefutedBy_L4 (F : Nat) (nR nN nT gg : Nat) : Nat → qm_F → Int32 → Int32 → Int32 → Option (Int32 × qm_F)
  | 0, _, _, _, _ => none
  | n + 1, φ, x1, x2, x3 =>
    qg (decide (gg < 2147483648)) <|
    if (Int32.ofNat gg) ≤ x3 then
      some (x2, φ)
    else
      qg (qm_in x3 gg) <|
      if (φ 33 x3.toNatClampNeg) = 0 then
        se_leftRefutedBy_L4 F nR nN nT gg n φ x1 x2 (x3 + 1)
      else
        qb2 (ve_verdictOf F nR nN nT gg φ x3 x1) fun y1 φ1 =>
        if y1 = 0 then
          se_leftRefutedBy_L4 F nR nN nT gg n φ1 x1 x2 (x3 + 1)
        else
          se_leftRefutedBy_L4 F nR nN nT gg n φ1 x1 (x2 + 1) (x3 + 1)
def se_leftRefutedBy (F : Nat) (nR nN nT gg : Nat) (φ : qm_F) (x1 : Int32) : Option (Int32 × qm_F) :=
  se_leftRefutedBy_L4 F nR nN nT gg F φ x1 0 0
set_option maxRecDepth 100000 in
theorem se_leftRefutedBy_L4_n (F d : Nat) (nR nN nT gg : Nat) (X : List (Nat × Nat)) (ρ : Nat → Nat → Option Nat) (hd : 4 ≤ d) : ∀ (n : Nat) (φ : qm_F) (x1 : Int32) (x2 : Int32) (x3 : Int32) (r : (Int32 × qm_F)), se_leftRefutedBy_L4 F nR nN nT gg n φ x1 x2 x3 = some r → qm_Rn d 243 4 [.ref 30, .int x1, .int x2, .int x3] [] (cs nR nN nT gg X ρ φ) (some (.int r.1), cs nR nN nT gg X ρ r.2) := by
  obtain ⟨d, rfl⟩ : ∃ e, d = e + 1 := ⟨d - 1, by omega⟩
  have hC := qC_243
  intro n
  induction n with
  | zero => intro φ x1 x2 x3 r hs; simp [se_leftRefutedBy_L4] at hs
  | succ n ih =>
    intro φ x1 x2 x3 r hs
    rw [se_leftRefutedBy_L4] at hs
    refine qr_s hC (n := 3) (pc' := 9) (ls' := [.ref 30, .int x1, .int x2, .int x3]) (st' := [.ref 33, .int x3]) (h' := cs nR nN nT gg X ρ φ) rfl ?_
    obtain ⟨hq, hs⟩ := qg_s hs
    refine qr_al hC rfl rfl hq ?_
    refine qr_ge2 (tgt := 43) hC rfl (by decide) rfl (fun hc => ?_) (fun hc => ?_)
    · rw [if_pos hc] at hs
      refine qr_s hC (n := 1) (pc' := 44) (ls' := [.ref 30, .int x1, .int x2, .int x3]) (st' := [.int x2]) (h' := cs nR nN nT gg X ρ φ) rfl ?_
      have hs := Option.some.inj hs
      subst hs
      exact qr_r hC rfl rfl
    · rw [if_neg hc] at hs
      refine qr_s hC (n := 3) (pc' := 18) (ls' := [.ref 30, .int x1, .int x2, .int x3]) (st' := [.int x3, .ref 33]) (h' := cs nR nN nT gg X ρ φ) rfl ?_
      obtain ⟨hq, hs⟩ := qg_s hs
      refine qr_za (v := φ 33 x3.toNatClampNeg) hC rfl rfl hq rfl ?_
      refine qr_eq1 (tgt := 37) hC rfl (by decide) rfl (fun hc => ?_) (fun hc => ?_)
      · rw [if_pos hc] at hs
        refine qr_s hC (n := 2) (pc' := 4) (ls' := [.ref 30, .int x1, .int x2, .int (x3 + 1)]) (st' := []) (h' := cs nR nN nT gg X ρ φ) rfl ?_
        exact ih φ x1 x2 (x3 + 1) _ hs
      · rw [if_neg hc] at hs
        refine qr_s hC (n := 4) (pc' := 28) (ls' := [.ref 30, .int x1, .int x2, .int x3]) (st' := [.int x1, .int x3, .ref 25]) (h' := cs nR nN nT gg X ρ φ) rfl ?_
        obtain ⟨y1, φ1, hy, hs⟩ := qb2_s hs
        refine qr_c (j := 276) (as := [.ref 25, .int x3, .int x1]) (rest := []) (v := some (.int y1)) (h1 := cs nR nN nT gg X ρ φ1) hC rfl rfl qC_276 rfl rfl (ve_verdictOf_n F d nR nN nT gg X ρ φ x3 x1 _ (by omega) hy) ?_
        show qm_Rn (d + 1) 243 31 [.ref 30, .int x1, .int x2, .int x3] [.int y1] (cs nR nN nT gg X ρ φ1) _
        refine qr_eq1 (tgt := 37) hC rfl (by decide) rfl (fun hc => ?_) (fun hc => ?_)
        · rw [if_pos hc] at hs
          refine qr_s hC (n := 2) (pc' := 4) (ls' := [.ref 30, .int x1, .int x2, .int (x3 + 1)]) (st' := []) (h' := cs nR nN nT gg X ρ φ1) rfl ?_
          exact ih φ1 x1 x2 (x3 + 1) _ hs
        · rw [if_neg hc] at hs
          refine qr_s hC (n := 3) (pc' := 4) (ls' := [.ref 30, .int x1, .int (x2 + 1), .int (x3 + 1)]) (st' := []) (h' := cs nR nN nT gg X ρ φ1) rfl ?_
          exact ih φ1 x1 (x2 + 1) (x3 + 1) _ hs
set_option maxRecDepth 100000 in
theorem se_leftRefutedBy_n (F d : Nat) (nR nN nT gg : Nat) (X : List (Nat × Nat)) (ρ : Nat → Nat → Option Nat) (φ : qm_F) (x1 : Int32) (r : (Int32 × qm_F)) (hd : 4 ≤ d) (hs : se_leftRefutedBy F nR nN nT gg φ x1 = some r) : qm_Rn d 243 0 [.ref 30, .int x1, .retAddr 0, .retAddr 0] [] (cs nR nN nT gg X ρ φ) (some (.int r.1), cs nR nN nT gg X ρ r.2) := by
  obtain ⟨d, rfl⟩ : ∃ e, d = e + 1 := ⟨d - 1, by omega⟩
  have hC := qC_243
  unfold se_leftRefutedBy at hs
  refine qr_s hC (n := 4) (pc' := 4) (ls' := [.ref 30, .int x1, .int 0, .int 0]) (st' := []) (h' := cs nR nN nT gg X ρ φ) rfl ?_
  exact se_leftRefutedBy_L4_n F (d + 1) nR nN nT gg X ρ (by omega) F φ x1 0 0 _ hs
/-- SketchFiller$Search.sharpestOf(I)I -/
def se_sharpestOf_L7 (F : Nat) (nR nN nT gg : Nat) : Nat → Nat → qm_F → Int32 → Int32 → Int32 → Int32 → Option (Int32 × qm_F)
  | 0, _, _, _, _, _, _ => none
  | n + 1, t, φ, x1, x2, x3, x4 =>
    if t = 0 then
      qb1 (pr_inputs F nR nN nT φ) fun y1 =>
      if y1 ≤ x4 then
        some (x2, φ)
      else
        if x1 = (-1) then
          se_sharpestOf_L7 F nR nN nT gg n 1 φ x1 x2 x3 x4
        else
          qb2 (ve_verdictOf F nR nN nT gg φ x1 x4) fun y2 φ1 =>
          if ¬ y2 = 0 then
            se_sharpestOf_L7 F nR nN nT gg n 1 φ1 x1 x2 x3 x4
          else
            se_sharpestOf_L7 F nR nN nT gg n 0 φ1 x1 x2 x3 (x4 + 1)
    else
    qb2 (se_leftRefutedBy F nR nN nT gg φ x4) fun y1 φ1 =>
    if y1 ≤ x3 then
      se_sharpestOf_L7 F nR nN nT gg n 0 φ1 x1 x2 x3 (x4 + 1)
    else
      se_sharpestOf_L7 F nR nN nT gg n 0 φ1 x1 x4 y1 (x4 + 1)
def se_sharpestOf (F : Nat) (nR nN nT gg : Nat) (φ : qm_F) (x1 : Int32) : Option (Int32 × qm_F) :=
  se_sharpestOf_L7 F nR nN nT gg F 0 φ x1 (-1) 0 0
set_option maxRecDepth 100000 in
theorem se_sharpestOf_L7_n0 (F d : Nat) (nR nN nT gg : Nat) (X : List (Nat × Nat)) (ρ : Nat → Nat → Option Nat) (hd : 5 ≤ d) : ∀ (n t : Nat) (φ : qm_F) (x1 : Int32) (x2 : Int32) (x3 : Int32) (x4 : Int32) (r : (Int32 × qm_F)), se_sharpestOf_L7 F nR nN nT gg n t φ x1 x2 x3 x4 = some r → (t = 0 → qm_Rn d 244 7 [.ref 30, .int x1, .int x2, .int x3, .int x4, .retAddr 0] [] (cs nR nN nT gg X ρ φ) (some (.int r.1), cs nR nN nT gg X ρ r.2)) ∧ (t ≠ 0 → qm_Rn d 244 40 [.ref 30, .int x1, .int x2, .int x3, .int x4, .retAddr 0] [] (cs nR nN nT gg X ρ φ) (some (.int r.1), cs nR nN nT gg X ρ r.2)) := by
  obtain ⟨d, rfl⟩ : ∃ e, d = e + 1 := ⟨d - 1, by omega⟩
  have hC := qC_244
  intro n
  induction n with
  | zero => intro t φ x1 x2 x3 x4 r hs; simp [se_sharpestOf_L7] at hs
  | succ n ihh =>
    intro t φ x1 x2 x3 x4 r hs
    rw [se_sharpestOf_L7] at hs
    have ih0 : ∀ (φ : qm_F) (x1 : Int32) (x2 : Int32) (x3 : Int32) (x4 : Int32) (r : (Int32 × qm_F)), se_sharpestOf_L7 F nR nN nT gg n 0 φ x1 x2 x3 x4 = some r → _ := fun φ x1 x2 x3 x4 r q => (ihh 0 φ x1 x2 x3 x4 r q).1 rfl
    have ih1 : ∀ (φ : qm_F) (x1 : Int32) (x2 : Int32) (x3 : Int32) (x4 : Int32) (r : (Int32 × qm_F)), se_sharpestOf_L7 F nR nN nT gg n 1 φ x1 x2 x3 x4 = some r → _ := fun φ x1 x2 x3 x4 r q => (ihh 1 φ x1 x2 x3 x4 r q).2 (by decide)
    refine ⟨fun ht => ?_, fun ht => ?_⟩
    · subst ht
      rw [if_pos rfl] at hs
      refine qr_s hC (n := 3) (pc' := 13) (ls' := [.ref 30, .int x1, .int x2, .int x3, .int x4, .retAddr 0]) (st' := [.ref 14, .int x4]) (h' := cs nR nN nT gg X ρ φ) rfl ?_
      obtain ⟨y1, hy, hs⟩ := qb1_s hs
      refine qr_c (j := 202) (as := [.ref 14]) (rest := [.int x4]) (v := some (.int y1)) (h1 := cs nR nN nT gg X ρ φ) hC rfl rfl qC_202 rfl rfl (pr_inputs_n F d nR nN nT (cr_X gg (cs_X gg X)) (cr_R (cs_R ρ)) φ _ (by omega) hy) ?_
      show qm_Rn (d + 1) 244 16 [.ref 30, .int x1, .int x2, .int x3, .int x4, .retAddr 0] [.int y1, .int x4] (cs nR nN nT gg X ρ φ) _
      refine qr_ge2 (tgt := 66) hC rfl (by decide) rfl (fun hc => ?_) (fun hc => ?_)
      · rw [if_pos hc] at hs
        refine qr_s hC (n := 1) (pc' := 67) (ls' := [.ref 30, .int x1, .int x2, .int x3, .int x4, .retAddr 0]) (st' := [.int x2]) (h' := cs nR nN nT gg X ρ φ) rfl ?_
        have hs := Option.some.inj hs
        subst hs
        exact qr_r hC rfl rfl
      · rw [if_neg hc] at hs
        refine qr_s hC (n := 2) (pc' := 21) (ls' := [.ref 30, .int x1, .int x2, .int x3, .int x4, .retAddr 0]) (st' := [.int (-1), .int x1]) (h' := cs nR nN nT gg X ρ φ) rfl ?_
        refine qr_eq2 (tgt := 40) hC rfl (by decide) rfl (fun hc => ?_) (fun hc => ?_)
        · rw [if_pos hc] at hs
          exact (ih1 φ x1 x2 x3 x4 _ hs)
        · rw [if_neg hc] at hs
          refine qr_s hC (n := 4) (pc' := 31) (ls' := [.ref 30, .int x1, .int x2, .int x3, .int x4, .retAddr 0]) (st' := [.int x4, .int x1, .ref 25]) (h' := cs nR nN nT gg X ρ φ) rfl ?_
          obtain ⟨y2, φ1, hy, hs⟩ := qb2_s hs
          refine qr_c (j := 276) (as := [.ref 25, .int x1, .int x4]) (rest := []) (v := some (.int y2)) (h1 := cs nR nN nT gg X ρ φ1) hC rfl rfl qC_276 rfl rfl (ve_verdictOf_n F d nR nN nT gg X ρ φ x1 x4 _ (by omega) hy) ?_
          show qm_Rn (d + 1) 244 34 [.ref 30, .int x1, .int x2, .int x3, .int x4, .retAddr 0] [.int y2] (cs nR nN nT gg X ρ φ1) _
          refine qr_ne1 (tgt := 40) hC rfl (by decide) rfl (fun hc => ?_) (fun hc => ?_)
          · rw [if_pos hc] at hs
            exact (ih1 φ1 x1 x2 x3 x4 _ hs)
          · rw [if_neg hc] at hs
            refine qr_s hC (n := 3) (pc' := 7) (ls' := [.ref 30, .int x1, .int x2, .int x3, .int (x4 + 1), .retAddr 0]) (st' := []) (h' := cs nR nN nT gg X ρ φ1) rfl ?_
            exact (ih0 φ1 x1 x2 x3 (x4 + 1) _ hs)
    · have ht0 := ht
      rw [if_neg ht0] at hs
      refine qr_s hC (n := 2) (pc' := 43) (ls' := [.ref 30, .int x1, .int x2, .int x3, .int x4, .retAddr 0]) (st' := [.int x4, .ref 30]) (h' := cs nR nN nT gg X ρ φ) rfl ?_
      obtain ⟨y1, φ1, hy, hs⟩ := qb2_s hs
      refine qr_c (j := 243) (as := [.ref 30, .int x4]) (rest := []) (v := some (.int y1)) (h1 := cs nR nN nT gg X ρ φ1) hC rfl rfl qC_243 rfl rfl (se_leftRefutedBy_n F d nR nN nT gg X ρ φ x4 _ (by omega) hy) ?_
      show qm_Rn (d + 1) 244 46 [.ref 30, .int x1, .int x2, .int x3, .int x4, .retAddr 0] [.int y1] (cs nR nN nT gg X ρ φ1) _
      refine qr_s hC (n := 3) (pc' := 51) (ls' := [.ref 30, .int x1, .int x2, .int x3, .int x4, .int y1]) (st' := [.int x3, .int y1]) (h' := cs nR nN nT gg X ρ φ1) rfl ?_
      refine qr_le2 (tgt := 60) hC rfl (by decide) rfl (fun hc => ?_) (fun hc => ?_)
      · rw [if_pos hc] at hs
        refine qr_s hC (n := 2) (pc' := 7) (ls' := [.ref 30, .int x1, .int x2, .int x3, .int (x4 + 1), .int y1]) (st' := []) (h' := cs nR nN nT gg X ρ φ1) rfl ?_
        exact qr_w (a := [.ref 30, .int x1, .int x2, .int x3, .int (x4 + 1), .retAddr 0]) ⟨Or.inr rfl, Or.inr rfl, Or.inr rfl, Or.inr rfl, Or.inr rfl, Or.inl rfl, trivial⟩ (ih0 φ1 x1 x2 x3 (x4 + 1) _ hs)
      · rw [if_neg hc] at hs
        refine qr_s hC (n := 6) (pc' := 7) (ls' := [.ref 30, .int x1, .int x4, .int y1, .int (x4 + 1), .int y1]) (st' := []) (h' := cs nR nN nT gg X ρ φ1) rfl ?_
        exact qr_w (a := [.ref 30, .int x1, .int x4, .int y1, .int (x4 + 1), .retAddr 0]) ⟨Or.inr rfl, Or.inr rfl, Or.inr rfl, Or.inr rfl, Or.inr rfl, Or.inl rfl, trivial⟩ (ih0 φ1 x1 x4 y1 (x4 + 1) _ hs)
theorem se_sharpestOf_L7_n_t0 (F d : Nat) (nR nN nT gg : Nat) (X : List (Nat × Nat)) (ρ : Nat → Nat → Option Nat) (hd : 5 ≤ d) (n : Nat) (φ : qm_F) (x1 : Int32) (x2 : Int32) (x3 : Int32) (x4 : Int32) (r : (Int32 × qm_F)) (hs : se_sharpestOf_L7 F nR nN nT gg n 0 φ x1 x2 x3 x4 = some r) : qm_Rn d 244 7 [.ref 30, .int x1, .int x2, .int x3, .int x4, .retAddr 0] [] (cs nR nN nT gg X ρ φ) (some (.int r.1), cs nR nN nT gg X ρ r.2) := (se_sharpestOf_L7_n0 F d nR nN nT gg X ρ hd n 0 φ x1 x2 x3 x4 r hs).1 rfl
theorem se_sharpestOf_L7_n_t1 (F d : Nat) (nR nN nT gg : Nat) (X : List (Nat × Nat)) (ρ : Nat → Nat → Option Nat) (hd : 5 ≤ d) (n : Nat) (φ : qm_F) (x1 : Int32) (x2 : Int32) (x3 : Int32) (x4 : Int32) (r : (Int32 × qm_F)) (hs : se_sharpestOf_L7 F nR nN nT gg n 1 φ x1 x2 x3 x4 = some r) : qm_Rn d 244 40 [.ref 30, .int x1, .int x2, .int x3, .int x4, .retAddr 0] [] (cs nR nN nT gg X ρ φ) (some (.int r.1), cs nR nN nT gg X ρ r.2) := (se_sharpestOf_L7_n0 F d nR nN nT gg X ρ hd n 1 φ x1 x2 x3 x4 r hs).2 (by decide)
set_option maxRecDepth 100000 in
theorem se_sharpestOf_n (F d : Nat) (nR nN nT gg : Nat) (X : List (Nat × Nat)) (ρ : Nat → Nat → Option Nat) (φ : qm_F) (x1 : Int32) (r : (Int32 × qm_F)) (hd : 5 ≤ d) (hs : se_sharpestOf F nR nN nT gg φ x1 = some r) : qm_Rn d 244 0 [.ref 30, .int x1, .retAddr 0, .retAddr 0, .retAddr 0, .retAddr 0] [] (cs nR nN nT gg X ρ φ) (some (.int r.1), cs nR nN nT gg X ρ r.2) := by
  obtain ⟨d, rfl⟩ : ∃ e, d = e + 1 := ⟨d - 1, by omega⟩
  have hC := qC_244
  unfold se_sharpestOf at hs
  refine qr_s hC (n := 6) (pc' := 7) (ls' := [.ref 30, .int x1, .int (-1), .int 0, .int 0, .retAddr 0]) (st' := []) (h' := cs nR nN nT gg X ρ φ) rfl ?_
  exact (se_sharpestOf_L7_n_t0 F (d + 1) nR nN nT gg X ρ (by omega) F φ x1 (-1) 0 0 _ hs)
/-- SketchFiller$Verdicts.greatestRefuter(I)I -/
def ve_greatestRefuter_L7 (F : Nat) (nR nN nT gg : Nat) : Nat → qm_F → Int32 → Int32 → Option (Int32 × qm_F)
  | 0, _, _, _ => none
  | n + 1, φ, x1, x2 =>
    if x2 < 0 then
      some ((-1), φ)
    else
      qb2 (ve_verdictOf F nR nN nT gg φ x1 x2) fun y1 φ1 =>
      if y1 = 0 then
        ve_greatestRefuter_L7 F nR nN nT gg n φ1 x1 (x2 + (-1))
      else
        some (x2, φ1)
def ve_greatestRefuter (F : Nat) (nR nN nT gg : Nat) (φ : qm_F) (x1 : Int32) : Option (Int32 × qm_F) :=
  ve_greatestRefuter_L7 F nR nN nT gg F φ x1 ((φ 25 1) - 1)
set_option maxRecDepth 100000 in
theorem ve_greatestRefuter_L7_n (F d : Nat) (nR nN nT gg : Nat) (X : List (Nat × Nat)) (ρ : Nat → Nat → Option Nat) (hd : 4 ≤ d) : ∀ (n : Nat) (φ : qm_F) (x1 : Int32) (x2 : Int32) (r : (Int32 × qm_F)), ve_greatestRefuter_L7 F nR nN nT gg n φ x1 x2 = some r → qm_Rn d 278 7 [.ref 25, .int x1, .int x2] [] (cs nR nN nT gg X ρ φ) (some (.int r.1), cs nR nN nT gg X ρ r.2) := by
  obtain ⟨d, rfl⟩ : ∃ e, d = e + 1 := ⟨d - 1, by omega⟩
  have hC := qC_278
  intro n
  induction n with
  | zero => intro φ x1 x2 r hs; simp [ve_greatestRefuter_L7] at hs
  | succ n ih =>
    intro φ x1 x2 r hs
    rw [ve_greatestRefuter_L7] at hs
    refine qr_s hC (n := 1) (pc' := 8) (ls' := [.ref 25, .int x1, .int x2]) (st' := [.int x2]) (h' := cs nR nN nT gg X ρ φ) rfl ?_
    refine qr_lt1 (tgt := 28) hC rfl (by decide) rfl (fun hc => ?_) (fun hc => ?_)
    · rw [if_pos hc] at hs
      refine qr_s hC (n := 1) (pc' := 29) (ls' := [.ref 25, .int x1, .int x2]) (st' := [.int (-1)]) (h' := cs nR nN nT gg X ρ φ) rfl ?_
      have hs := Option.some.inj hs
      subst hs
      exact qr_r hC rfl rfl
    · rw [if_neg hc] at hs
      refine qr_s hC (n := 3) (pc' := 14) (ls' := [.ref 25, .int x1, .int x2]) (st' := [.int x2, .int x1, .ref 25]) (h' := cs nR nN nT gg X ρ φ) rfl ?_
      obtain ⟨y1, φ1, hy, hs⟩ := qb2_s hs
      refine qr_c (j := 276) (as := [.ref 25, .int x1, .int x2]) (rest := []) (v := some (.int y1)) (h1 := cs nR nN nT gg X ρ φ1) hC rfl rfl qC_276 rfl rfl (ve_verdictOf_n F d nR nN nT gg X ρ φ x1 x2 _ (by omega) hy) ?_
      show qm_Rn (d + 1) 278 17 [.ref 25, .int x1, .int x2] [.int y1] (cs nR nN nT gg X ρ φ1) _
      refine qr_eq1 (tgt := 22) hC rfl (by decide) rfl (fun hc => ?_) (fun hc => ?_)
      · rw [if_pos hc] at hs
        refine qr_s hC (n := 2) (pc' := 7) (ls' := [.ref 25, .int x1, .int (x2 + (-1))]) (st' := []) (h' := cs nR nN nT gg X ρ φ1) rfl ?_
        exact ih φ1 x1 (x2 + (-1)) _ hs
      · rw [if_neg hc] at hs
        refine qr_s hC (n := 1) (pc' := 21) (ls' := [.ref 25, .int x1, .int x2]) (st' := [.int x2]) (h' := cs nR nN nT gg X ρ φ1) rfl ?_
        have hs := Option.some.inj hs
        subst hs
        exact qr_r hC rfl rfl
set_option maxRecDepth 100000 in
theorem ve_greatestRefuter_n (F d : Nat) (nR nN nT gg : Nat) (X : List (Nat × Nat)) (ρ : Nat → Nat → Option Nat) (φ : qm_F) (x1 : Int32) (r : (Int32 × qm_F)) (hd : 4 ≤ d) (hs : ve_greatestRefuter F nR nN nT gg φ x1 = some r) : qm_Rn d 278 0 [.ref 25, .int x1, .retAddr 0] [] (cs nR nN nT gg X ρ φ) (some (.int r.1), cs nR nN nT gg X ρ r.2) := by
  obtain ⟨d, rfl⟩ : ∃ e, d = e + 1 := ⟨d - 1, by omega⟩
  have hC := qC_278
  unfold ve_greatestRefuter at hs
  refine qr_s hC (n := 5) (pc' := 7) (ls' := [.ref 25, .int x1, .int ((φ 25 1) - 1)]) (st' := []) (h' := cs nR nN nT gg X ρ φ) rfl ?_
  exact ve_greatestRefuter_L7_n F (d + 1) nR nN nT gg X ρ (by omega) F φ x1 ((φ 25 1) - 1) _ hs
/-- SketchFiller$Search.toCheck()I -/
def se_toCheck_L76 (F : Nat) (nR nN nT gg : Nat) (φ : qm_F) (x1 : Int32) : Option (Int32 × qm_F) :=
  if ¬ x1 = (-1) then
    qb2 (se_addKept F nR nN nT gg φ x1) fun y1 φ1 =>
    if ¬ y1 = 0 then
      some (x1, (qm_u φ1 30 8 (-1)))
    else
      some ((-3), φ1)
  else
    some ((-2), (qm_u φ 30 7 1))
def se_toCheck (F : Nat) (nR nN nT gg : Nat) (φ : qm_F) : Option (Int32 × qm_F) :=
  if ¬ (φ 30 7) = 0 then
    some ((-1), φ)
  else
    if ¬ (φ 30 8) = (-1) then
      if ¬ (φ 30 6) = 1 then
        if ¬ (φ 30 6) = 2 then
          qb2 (ve_leastRefuter F nR nN nT gg φ (φ 30 8)) fun y1 φ1 =>
          se_toCheck_L76 F nR nN nT gg φ1 y1
        else
          qb1 (se_markLeft F nR nN nT gg φ) fun φ2 =>
          qb2 (se_sharpestOf F nR nN nT gg φ2 (φ2 30 8)) fun y2 φ3 =>
          se_toCheck_L76 F nR nN nT gg φ3 y2
      else
        qb2 (ve_greatestRefuter F nR nN nT gg φ (φ 30 8)) fun y3 φ4 =>
        se_toCheck_L76 F nR nN nT gg φ4 y3
    else
      some ((-1), φ)
set_option maxRecDepth 100000 in
theorem se_toCheck_L76_n (F d : Nat) (nR nN nT gg : Nat) (X : List (Nat × Nat)) (ρ : Nat → Nat → Option Nat) (hd : 6 ≤ d) (φ : qm_F) (x1 : Int32) (r : (Int32 × qm_F)) (hs : se_toCheck_L76 F nR nN nT gg φ x1 = some r) : qm_Rn d 236 76 [.ref 30, .int x1] [] (cs nR nN nT gg X ρ φ) (some (.int r.1), cs nR nN nT gg X ρ r.2) := by
  obtain ⟨d, rfl⟩ : ∃ e, d = e + 1 := ⟨d - 1, by omega⟩
  have hC := qC_236
  unfold se_toCheck_L76 at hs
  refine qr_s hC (n := 2) (pc' := 78) (ls' := [.ref 30, .int x1]) (st' := [.int (-1), .int x1]) (h' := cs nR nN nT gg X ρ φ) rfl ?_
  refine qr_ne2 (tgt := 89) hC rfl (by decide) rfl (fun hc => ?_) (fun hc => ?_)
  · rw [if_pos hc] at hs
    refine qr_s hC (n := 2) (pc' := 91) (ls' := [.ref 30, .int x1]) (st' := [.int x1, .ref 30]) (h' := cs nR nN nT gg X ρ φ) rfl ?_
    obtain ⟨y1, φ1, hy, hs⟩ := qb2_s hs
    refine qr_c (j := 231) (as := [.ref 30, .int x1]) (rest := []) (v := some (.int y1)) (h1 := cs nR nN nT gg X ρ φ1) hC rfl rfl qC_231 rfl rfl (se_addKept_n F d nR nN nT gg X ρ φ x1 _ (by omega) hy) ?_
    show qm_Rn (d + 1) 236 94 [.ref 30, .int x1] [.int y1] (cs nR nN nT gg X ρ φ1) _
    refine qr_ne1 (tgt := 100) hC rfl (by decide) rfl (fun hc => ?_) (fun hc => ?_)
    · rw [if_pos hc] at hs
      refine qr_s hC (n := 4) (pc' := 106) (ls' := [.ref 30, .int x1]) (st' := [.int x1]) (h' := cs nR nN nT gg X ρ (qm_u φ1 30 8 (-1))) rfl ?_
      have hs := Option.some.inj hs
      subst hs
      exact qr_r hC rfl rfl
    · rw [if_neg hc] at hs
      refine qr_s hC (n := 1) (pc' := 99) (ls' := [.ref 30, .int x1]) (st' := [.int (-3)]) (h' := cs nR nN nT gg X ρ φ1) rfl ?_
      have hs := Option.some.inj hs
      subst hs
      exact qr_r hC rfl rfl
  · rw [if_neg hc] at hs
    refine qr_s hC (n := 4) (pc' := 88) (ls' := [.ref 30, .int x1]) (st' := [.int (-2)]) (h' := cs nR nN nT gg X ρ (qm_u φ 30 7 1)) rfl ?_
    have hs := Option.some.inj hs
    subst hs
    exact qr_r hC rfl rfl
set_option maxRecDepth 100000 in
theorem se_toCheck_n (F d : Nat) (nR nN nT gg : Nat) (X : List (Nat × Nat)) (ρ : Nat → Nat → Option Nat) (φ : qm_F) (r : (Int32 × qm_F)) (hd : 6 ≤ d) (hs : se_toCheck F nR nN nT gg φ = some r) : qm_Rn d 236 0 [.ref 30, .retAddr 0] [] (cs nR nN nT gg X ρ φ) (some (.int r.1), cs nR nN nT gg X ρ r.2) := by
  obtain ⟨d, rfl⟩ : ∃ e, d = e + 1 := ⟨d - 1, by omega⟩
  have hC := qC_236
  unfold se_toCheck at hs
  refine qr_s hC (n := 2) (pc' := 4) (ls' := [.ref 30, .retAddr 0]) (st' := [.int (φ 30 7)]) (h' := cs nR nN nT gg X ρ φ) rfl ?_
  refine qr_ne1 (tgt := 15) hC rfl (by decide) rfl (fun hc => ?_) (fun hc => ?_)
  · rw [if_pos hc] at hs
    refine qr_s hC (n := 1) (pc' := 16) (ls' := [.ref 30, .retAddr 0]) (st' := [.int (-1)]) (h' := cs nR nN nT gg X ρ φ) rfl ?_
    have hs := Option.some.inj hs
    subst hs
    exact qr_r hC rfl rfl
  · rw [if_neg hc] at hs
    refine qr_s hC (n := 3) (pc' := 12) (ls' := [.ref 30, .retAddr 0]) (st' := [.int (-1), .int (φ 30 8)]) (h' := cs nR nN nT gg X ρ φ) rfl ?_
    refine qr_ne2 (tgt := 17) hC rfl (by decide) rfl (fun hc => ?_) (fun hc => ?_)
    · rw [if_pos hc] at hs
      refine qr_s hC (n := 3) (pc' := 22) (ls' := [.ref 30, .retAddr 0]) (st' := [.int 1, .int (φ 30 6)]) (h' := cs nR nN nT gg X ρ φ) rfl ?_
      refine qr_ne2 (tgt := 40) hC rfl (by decide) rfl (fun hc => ?_) (fun hc => ?_)
      · rw [if_pos hc] at hs
        refine qr_s hC (n := 3) (pc' := 45) (ls' := [.ref 30, .retAddr 0]) (st' := [.int 2, .int (φ 30 6)]) (h' := cs nR nN nT gg X ρ φ) rfl ?_
        refine qr_ne2 (tgt := 64) hC rfl (by decide) rfl (fun hc => ?_) (fun hc => ?_)
        · rw [if_pos hc] at hs
          refine qr_s hC (n := 4) (pc' := 72) (ls' := [.ref 30, .retAddr 0]) (st' := [.int (φ 30 8), .ref 25]) (h' := cs nR nN nT gg X ρ φ) rfl ?_
          obtain ⟨y1, φ1, hy, hs⟩ := qb2_s hs
          refine qr_c (j := 277) (as := [.ref 25, .int (φ 30 8)]) (rest := []) (v := some (.int y1)) (h1 := cs nR nN nT gg X ρ φ1) hC rfl rfl qC_277 rfl rfl (ve_leastRefuter_n F d nR nN nT gg X ρ φ (φ 30 8) _ (by omega) hy) ?_
          show qm_Rn (d + 1) 236 75 [.ref 30, .retAddr 0] [.int y1] (cs nR nN nT gg X ρ φ1) _
          refine qr_s hC (n := 1) (pc' := 76) (ls' := [.ref 30, .int y1]) (st' := []) (h' := cs nR nN nT gg X ρ φ1) rfl ?_
          exact se_toCheck_L76_n F (d + 1) nR nN nT gg X ρ (by omega) φ1 y1 _ hs
        · rw [if_neg hc] at hs
          refine qr_s hC (n := 1) (pc' := 49) (ls' := [.ref 30, .retAddr 0]) (st' := [.ref 30]) (h' := cs nR nN nT gg X ρ φ) rfl ?_
          obtain ⟨φ2, hy, hs⟩ := qb1_s hs
          refine qr_c (j := 242) (as := [.ref 30]) (rest := []) (v := none) (h1 := cs nR nN nT gg X ρ φ2) hC rfl rfl qC_242 rfl rfl (se_markLeft_n F d nR nN nT gg X ρ φ _ (by omega) hy) ?_
          show qm_Rn (d + 1) 236 52 [.ref 30, .retAddr 0] [] (cs nR nN nT gg X ρ φ2) _
          refine qr_s hC (n := 3) (pc' := 57) (ls' := [.ref 30, .retAddr 0]) (st' := [.int (φ2 30 8), .ref 30]) (h' := cs nR nN nT gg X ρ φ2) rfl ?_
          obtain ⟨y2, φ3, hy, hs⟩ := qb2_s hs
          refine qr_c (j := 244) (as := [.ref 30, .int (φ2 30 8)]) (rest := []) (v := some (.int y2)) (h1 := cs nR nN nT gg X ρ φ3) hC rfl rfl qC_244 rfl rfl (se_sharpestOf_n F d nR nN nT gg X ρ φ2 (φ2 30 8) _ (by omega) hy) ?_
          show qm_Rn (d + 1) 236 60 [.ref 30, .retAddr 0] [.int y2] (cs nR nN nT gg X ρ φ3) _
          refine qr_s hC (n := 2) (pc' := 76) (ls' := [.ref 30, .int y2]) (st' := []) (h' := cs nR nN nT gg X ρ φ3) rfl ?_
          exact se_toCheck_L76_n F (d + 1) nR nN nT gg X ρ (by omega) φ3 y2 _ hs
      · rw [if_neg hc] at hs
        refine qr_s hC (n := 4) (pc' := 33) (ls' := [.ref 30, .retAddr 0]) (st' := [.int (φ 30 8), .ref 25]) (h' := cs nR nN nT gg X ρ φ) rfl ?_
        obtain ⟨y3, φ4, hy, hs⟩ := qb2_s hs
        refine qr_c (j := 278) (as := [.ref 25, .int (φ 30 8)]) (rest := []) (v := some (.int y3)) (h1 := cs nR nN nT gg X ρ φ4) hC rfl rfl qC_278 rfl rfl (ve_greatestRefuter_n F d nR nN nT gg X ρ φ (φ 30 8) _ (by omega) hy) ?_
        show qm_Rn (d + 1) 236 36 [.ref 30, .retAddr 0] [.int y3] (cs nR nN nT gg X ρ φ4) _
        refine qr_s hC (n := 2) (pc' := 76) (ls' := [.ref 30, .int y3]) (st' := []) (h' := cs nR nN nT gg X ρ φ4) rfl ?_
        exact se_toCheck_L76_n F (d + 1) nR nN nT gg X ρ (by omega) φ4 y3 _ hs
    · rw [if_neg hc] at hs
      refine qr_s hC (n := 1) (pc' := 16) (ls' := [.ref 30, .retAddr 0]) (st' := [.int (-1)]) (h' := cs nR nN nT gg X ρ φ) rfl ?_
      have hs := Option.some.inj hs
      subst hs
      exact qr_r hC rfl rfl
/-- SketchFiller.check()I -/
def sf_check (F : Nat) (nR nN nT gg : Nat) (φ : qm_F) : Option (Int32 × qm_F) :=
  qb2 (se_toCheck F nR nN nT gg φ) fun y1 φ1 =>
  some (y1, φ1)
set_option maxRecDepth 100000 in
theorem sf_check_n (F d : Nat) (nR nN nT gg : Nat) (X : List (Nat × Nat)) (ρ : Nat → Nat → Option Nat) (φ : qm_F) (r : (Int32 × qm_F)) (hd : 7 ≤ d) (hs : sf_check F nR nN nT gg φ = some r) : qm_Rn d 12 0 [.ref 0] [] (cs nR nN nT gg X ρ φ) (some (.int r.1), cs nR nN nT gg X ρ r.2) := by
  obtain ⟨d, rfl⟩ : ∃ e, d = e + 1 := ⟨d - 1, by omega⟩
  have hC := qC_12
  unfold sf_check at hs
  refine qr_s hC (n := 5) (pc' := 15) (ls' := [.ref 0]) (st' := [.ref 30]) (h' := cs nR nN nT gg X ρ φ) rfl ?_
  obtain ⟨y1, φ1, hy, hs⟩ := qb2_s hs
  refine qr_c (j := 236) (as := [.ref 30]) (rest := []) (v := some (.int y1)) (h1 := cs nR nN nT gg X ρ φ1) hC rfl rfl qC_236 rfl rfl (se_toCheck_n F d nR nN nT gg X ρ φ _ (by omega) hy) ?_
  show qm_Rn (d + 1) 12 18 [.ref 0] [.int y1] (cs nR nN nT gg X ρ φ1) _
  have hs := Option.some.inj hs
  subst hs
  exact qr_r hC rfl rfl
/-- SketchFiller$Search.isSeeking()Z -/
def se_isSeeking (F : Nat) (nR nN nT gg : Nat) (φ : qm_F) : Option Int32 :=
  if ¬ (φ 30 7) = 0 then
    some 0
  else
    some 1
set_option maxRecDepth 100000 in
theorem se_isSeeking_n (F d : Nat) (nR nN nT gg : Nat) (X : List (Nat × Nat)) (ρ : Nat → Nat → Option Nat) (φ : qm_F) (r : Int32) (hd : 0 ≤ d) (hs : se_isSeeking F nR nN nT gg φ = some r) : qm_Rn d 224 0 [.ref 30] [] (cs nR nN nT gg X ρ φ) (some (.int r), cs nR nN nT gg X ρ φ) := by
  have hC := qC_224
  unfold se_isSeeking at hs
  refine qr_s hC (n := 2) (pc' := 4) (ls' := [.ref 30]) (st' := [.int (φ 30 7)]) (h' := cs nR nN nT gg X ρ φ) rfl ?_
  refine qr_ne1 (tgt := 11) hC rfl (by decide) rfl (fun hc => ?_) (fun hc => ?_)
  · rw [if_pos hc] at hs
    refine qr_s hC (n := 1) (pc' := 12) (ls' := [.ref 30]) (st' := [.int 0]) (h' := cs nR nN nT gg X ρ φ) rfl ?_
    have hs := Option.some.inj hs
    subst hs
    exact qr_r hC rfl rfl
  · rw [if_neg hc] at hs
    refine qr_s hC (n := 2) (pc' := 12) (ls' := [.ref 30]) (st' := [.int 1]) (h' := cs nR nN nT gg X ρ φ) rfl ?_
    have hs := Option.some.inj hs
    subst hs
    exact qr_r hC rfl rfl
/-- SketchFiller$Search.hasCurrent()Z -/
def se_hasCurrent (F : Nat) (nR nN nT gg : Nat) (φ : qm_F) : Option Int32 :=
  if (φ 30 8) = (-1) then
    some 0
  else
    some 1
set_option maxRecDepth 100000 in
theorem se_hasCurrent_n (F d : Nat) (nR nN nT gg : Nat) (X : List (Nat × Nat)) (ρ : Nat → Nat → Option Nat) (φ : qm_F) (r : Int32) (hd : 0 ≤ d) (hs : se_hasCurrent F nR nN nT gg φ = some r) : qm_Rn d 225 0 [.ref 30] [] (cs nR nN nT gg X ρ φ) (some (.int r), cs nR nN nT gg X ρ φ) := by
  have hC := qC_225
  unfold se_hasCurrent at hs
  refine qr_s hC (n := 3) (pc' := 5) (ls' := [.ref 30]) (st' := [.int (-1), .int (φ 30 8)]) (h' := cs nR nN nT gg X ρ φ) rfl ?_
  refine qr_eq2 (tgt := 12) hC rfl (by decide) rfl (fun hc => ?_) (fun hc => ?_)
  · rw [if_pos hc] at hs
    refine qr_s hC (n := 1) (pc' := 13) (ls' := [.ref 30]) (st' := [.int 0]) (h' := cs nR nN nT gg X ρ φ) rfl ?_
    have hs := Option.some.inj hs
    subst hs
    exact qr_r hC rfl rfl
  · rw [if_neg hc] at hs
    refine qr_s hC (n := 2) (pc' := 13) (ls' := [.ref 30]) (st' := [.int 1]) (h' := cs nR nN nT gg X ρ φ) rfl ?_
    have hs := Option.some.inj hs
    subst hs
    exact qr_r hC rfl rfl
/-- SketchFiller.go(I)I -/
def sf_go_L24 (F : Nat) (nR nN nT gg : Nat) : Nat → Nat → qm_F → Int32 → Int32 → Int32 → Int32 → Option (Int32 × qm_F)
  | 0, _, _, _, _, _, _ => none
  | n + 1, t, φ, x1, x2, x3, s0 =>
    if t = 0 then
      if x1 ≤ x3 then
        some (x2, φ)
      else
        qb1 (se_isSeeking F nR nN nT gg φ) fun y1 =>
        if y1 = 0 then
          some (x2, φ)
        else
          qb1 (se_hasCurrent F nR nN nT gg φ) fun y2 =>
          if y2 = 0 then
            qb2 (se_toGuess F nR nN nT gg φ) fun y3 φ1 =>
            sf_go_L24 F nR nN nT gg n 1 φ1 x1 x2 x3 y3
          else
            qb2 (se_toCheck F nR nN nT gg φ) fun y4 φ2 =>
            sf_go_L24 F nR nN nT gg n 1 φ2 x1 x2 x3 y4
    else
    if ¬ s0 = (-3) then
      sf_go_L24 F nR nN nT gg n 0 φ x1 (x2 + 1) (x3 + 1) 0
    else
      some (x2, φ)
def sf_go (F : Nat) (nR nN nT gg : Nat) (φ : qm_F) (x1 : Int32) : Option (Int32 × qm_F) :=
  if x1 < 1 then
    some ((-1), φ)
  else
    if x1 ≤ 100 then
      sf_go_L24 F nR nN nT gg F 0 φ x1 0 0 0
    else
      some ((-1), φ)
set_option maxRecDepth 100000 in
theorem sf_go_L24_n0 (F d : Nat) (nR nN nT gg : Nat) (X : List (Nat × Nat)) (ρ : Nat → Nat → Option Nat) (hd : 7 ≤ d) : ∀ (n t : Nat) (φ : qm_F) (x1 : Int32) (x2 : Int32) (x3 : Int32) (s0 : Int32) (r : (Int32 × qm_F)), sf_go_L24 F nR nN nT gg n t φ x1 x2 x3 s0 = some r → (t = 0 → qm_Rn d 13 24 [.ref 0, .int x1, .int x2, .int x3, .retAddr 0] [] (cs nR nN nT gg X ρ φ) (some (.int r.1), cs nR nN nT gg X ρ r.2)) ∧ (t ≠ 0 → qm_Rn d 13 66 [.ref 0, .int x1, .int x2, .int x3, .retAddr 0] [.int s0] (cs nR nN nT gg X ρ φ) (some (.int r.1), cs nR nN nT gg X ρ r.2)) := by
  obtain ⟨d, rfl⟩ : ∃ e, d = e + 1 := ⟨d - 1, by omega⟩
  have hC := qC_13
  intro n
  induction n with
  | zero => intro t φ x1 x2 x3 s0 r hs; simp [sf_go_L24] at hs
  | succ n ihh =>
    intro t φ x1 x2 x3 s0 r hs
    rw [sf_go_L24] at hs
    have ih0 : ∀ (φ : qm_F) (x1 : Int32) (x2 : Int32) (x3 : Int32) (s0 : Int32) (r : (Int32 × qm_F)), sf_go_L24 F nR nN nT gg n 0 φ x1 x2 x3 s0 = some r → _ := fun φ x1 x2 x3 s0 r q => (ihh 0 φ x1 x2 x3 s0 r q).1 rfl
    have ih1 : ∀ (φ : qm_F) (x1 : Int32) (x2 : Int32) (x3 : Int32) (s0 : Int32) (r : (Int32 × qm_F)), sf_go_L24 F nR nN nT gg n 1 φ x1 x2 x3 s0 = some r → _ := fun φ x1 x2 x3 s0 r q => (ihh 1 φ x1 x2 x3 s0 r q).2 (by decide)
    refine ⟨fun ht => ?_, fun ht => ?_⟩
    · subst ht
      rw [if_pos rfl] at hs
      refine qr_s hC (n := 2) (pc' := 26) (ls' := [.ref 0, .int x1, .int x2, .int x3, .retAddr 0]) (st' := [.int x1, .int x3]) (h' := cs nR nN nT gg X ρ φ) rfl ?_
      refine qr_ge2 (tgt := 86) hC rfl (by decide) rfl (fun hc => ?_) (fun hc => ?_)
      · rw [if_pos hc] at hs
        refine qr_s hC (n := 1) (pc' := 87) (ls' := [.ref 0, .int x1, .int x2, .int x3, .retAddr 0]) (st' := [.int x2]) (h' := cs nR nN nT gg X ρ φ) rfl ?_
        have hs := Option.some.inj hs
        subst hs
        exact qr_r hC rfl rfl
      · rw [if_neg hc] at hs
        refine qr_s hC (n := 2) (pc' := 33) (ls' := [.ref 0, .int x1, .int x2, .int x3, .retAddr 0]) (st' := [.ref 30]) (h' := cs nR nN nT gg X ρ φ) rfl ?_
        obtain ⟨y1, hy, hs⟩ := qb1_s hs
        refine qr_c (j := 224) (as := [.ref 30]) (rest := []) (v := some (.int y1)) (h1 := cs nR nN nT gg X ρ φ) hC rfl rfl qC_224 rfl rfl (se_isSeeking_n F d nR nN nT gg X ρ φ _ (by omega) hy) ?_
        show qm_Rn (d + 1) 13 36 [.ref 0, .int x1, .int x2, .int x3, .retAddr 0] [.int y1] (cs nR nN nT gg X ρ φ) _
        refine qr_eq1 (tgt := 86) hC rfl (by decide) rfl (fun hc => ?_) (fun hc => ?_)
        · rw [if_pos hc] at hs
          refine qr_s hC (n := 1) (pc' := 87) (ls' := [.ref 0, .int x1, .int x2, .int x3, .retAddr 0]) (st' := [.int x2]) (h' := cs nR nN nT gg X ρ φ) rfl ?_
          have hs := Option.some.inj hs
          subst hs
          exact qr_r hC rfl rfl
        · rw [if_neg hc] at hs
          refine qr_s hC (n := 2) (pc' := 43) (ls' := [.ref 0, .int x1, .int x2, .int x3, .retAddr 0]) (st' := [.ref 30]) (h' := cs nR nN nT gg X ρ φ) rfl ?_
          obtain ⟨y2, hy, hs⟩ := qb1_s hs
          refine qr_c (j := 225) (as := [.ref 30]) (rest := []) (v := some (.int y2)) (h1 := cs nR nN nT gg X ρ φ) hC rfl rfl qC_225 rfl rfl (se_hasCurrent_n F d nR nN nT gg X ρ φ _ (by omega) hy) ?_
          show qm_Rn (d + 1) 13 46 [.ref 0, .int x1, .int x2, .int x3, .retAddr 0] [.int y2] (cs nR nN nT gg X ρ φ) _
          refine qr_eq1 (tgt := 59) hC rfl (by decide) rfl (fun hc => ?_) (fun hc => ?_)
          · rw [if_pos hc] at hs
            refine qr_s hC (n := 2) (pc' := 63) (ls' := [.ref 0, .int x1, .int x2, .int x3, .retAddr 0]) (st' := [.ref 30]) (h' := cs nR nN nT gg X ρ φ) rfl ?_
            obtain ⟨y3, φ1, hy, hs⟩ := qb2_s hs
            refine qr_c (j := 235) (as := [.ref 30]) (rest := []) (v := some (.int y3)) (h1 := cs nR nN nT gg X ρ φ1) hC rfl rfl qC_235 rfl rfl (se_toGuess_n F d nR nN nT gg X ρ φ _ (by omega) hy) ?_
            show qm_Rn (d + 1) 13 66 [.ref 0, .int x1, .int x2, .int x3, .retAddr 0] [.int y3] (cs nR nN nT gg X ρ φ1) _
            exact (ih1 φ1 x1 x2 x3 y3 _ hs)
          · rw [if_neg hc] at hs
            refine qr_s hC (n := 2) (pc' := 53) (ls' := [.ref 0, .int x1, .int x2, .int x3, .retAddr 0]) (st' := [.ref 30]) (h' := cs nR nN nT gg X ρ φ) rfl ?_
            obtain ⟨y4, φ2, hy, hs⟩ := qb2_s hs
            refine qr_c (j := 236) (as := [.ref 30]) (rest := []) (v := some (.int y4)) (h1 := cs nR nN nT gg X ρ φ2) hC rfl rfl qC_236 rfl rfl (se_toCheck_n F d nR nN nT gg X ρ φ _ (by omega) hy) ?_
            show qm_Rn (d + 1) 13 56 [.ref 0, .int x1, .int x2, .int x3, .retAddr 0] [.int y4] (cs nR nN nT gg X ρ φ2) _
            refine qr_s hC (n := 1) (pc' := 66) (ls' := [.ref 0, .int x1, .int x2, .int x3, .retAddr 0]) (st' := [.int y4]) (h' := cs nR nN nT gg X ρ φ2) rfl ?_
            exact (ih1 φ2 x1 x2 x3 y4 _ hs)
    · have ht0 := ht
      rw [if_neg ht0] at hs
      refine qr_s hC (n := 3) (pc' := 72) (ls' := [.ref 0, .int x1, .int x2, .int x3, .int s0]) (st' := [.int (-3), .int s0]) (h' := cs nR nN nT gg X ρ φ) rfl ?_
      refine qr_ne2 (tgt := 77) hC rfl (by decide) rfl (fun hc => ?_) (fun hc => ?_)
      · rw [if_pos hc] at hs
        refine qr_s hC (n := 3) (pc' := 24) (ls' := [.ref 0, .int x1, .int (x2 + 1), .int (x3 + 1), .int s0]) (st' := []) (h' := cs nR nN nT gg X ρ φ) rfl ?_
        exact qr_w (a := [.ref 0, .int x1, .int (x2 + 1), .int (x3 + 1), .retAddr 0]) ⟨Or.inr rfl, Or.inr rfl, Or.inr rfl, Or.inr rfl, Or.inl rfl, trivial⟩ (ih0 φ x1 (x2 + 1) (x3 + 1) 0 _ hs)
      · rw [if_neg hc] at hs
        refine qr_s hC (n := 1) (pc' := 76) (ls' := [.ref 0, .int x1, .int x2, .int x3, .int s0]) (st' := [.int x2]) (h' := cs nR nN nT gg X ρ φ) rfl ?_
        have hs := Option.some.inj hs
        subst hs
        exact qr_r hC rfl rfl
theorem sf_go_L24_n_t0 (F d : Nat) (nR nN nT gg : Nat) (X : List (Nat × Nat)) (ρ : Nat → Nat → Option Nat) (hd : 7 ≤ d) (n : Nat) (φ : qm_F) (x1 : Int32) (x2 : Int32) (x3 : Int32) (s0 : Int32) (r : (Int32 × qm_F)) (hs : sf_go_L24 F nR nN nT gg n 0 φ x1 x2 x3 s0 = some r) : qm_Rn d 13 24 [.ref 0, .int x1, .int x2, .int x3, .retAddr 0] [] (cs nR nN nT gg X ρ φ) (some (.int r.1), cs nR nN nT gg X ρ r.2) := (sf_go_L24_n0 F d nR nN nT gg X ρ hd n 0 φ x1 x2 x3 s0 r hs).1 rfl
theorem sf_go_L24_n_t1 (F d : Nat) (nR nN nT gg : Nat) (X : List (Nat × Nat)) (ρ : Nat → Nat → Option Nat) (hd : 7 ≤ d) (n : Nat) (φ : qm_F) (x1 : Int32) (x2 : Int32) (x3 : Int32) (s0 : Int32) (r : (Int32 × qm_F)) (hs : sf_go_L24 F nR nN nT gg n 1 φ x1 x2 x3 s0 = some r) : qm_Rn d 13 66 [.ref 0, .int x1, .int x2, .int x3, .retAddr 0] [.int s0] (cs nR nN nT gg X ρ φ) (some (.int r.1), cs nR nN nT gg X ρ r.2) := (sf_go_L24_n0 F d nR nN nT gg X ρ hd n 1 φ x1 x2 x3 s0 r hs).2 (by decide)
set_option maxRecDepth 100000 in
theorem sf_go_n (F d : Nat) (nR nN nT gg : Nat) (X : List (Nat × Nat)) (ρ : Nat → Nat → Option Nat) (φ : qm_F) (x1 : Int32) (r : (Int32 × qm_F)) (hd : 7 ≤ d) (hs : sf_go F nR nN nT gg φ x1 = some r) : qm_Rn d 13 0 [.ref 0, .int x1, .retAddr 0, .retAddr 0, .retAddr 0] [] (cs nR nN nT gg X ρ φ) (some (.int r.1), cs nR nN nT gg X ρ r.2) := by
  obtain ⟨d, rfl⟩ : ∃ e, d = e + 1 := ⟨d - 1, by omega⟩
  have hC := qC_13
  unfold sf_go at hs
  refine qr_s hC (n := 5) (pc' := 9) (ls' := [.ref 0, .int x1, .retAddr 0, .retAddr 0, .retAddr 0]) (st' := [.int 1, .int x1]) (h' := cs nR nN nT gg X ρ φ) rfl ?_
  refine qr_lt2 (tgt := 18) hC rfl (by decide) rfl (fun hc => ?_) (fun hc => ?_)
  · rw [if_pos hc] at hs
    refine qr_s hC (n := 1) (pc' := 19) (ls' := [.ref 0, .int x1, .retAddr 0, .retAddr 0, .retAddr 0]) (st' := [.int (-1)]) (h' := cs nR nN nT gg X ρ φ) rfl ?_
    have hs := Option.some.inj hs
    subst hs
    exact qr_r hC rfl rfl
  · rw [if_neg hc] at hs
    refine qr_s hC (n := 2) (pc' := 15) (ls' := [.ref 0, .int x1, .retAddr 0, .retAddr 0, .retAddr 0]) (st' := [.int 100, .int x1]) (h' := cs nR nN nT gg X ρ φ) rfl ?_
    refine qr_le2 (tgt := 20) hC rfl (by decide) rfl (fun hc => ?_) (fun hc => ?_)
    · rw [if_pos hc] at hs
      refine qr_s hC (n := 4) (pc' := 24) (ls' := [.ref 0, .int x1, .int 0, .int 0, .retAddr 0]) (st' := []) (h' := cs nR nN nT gg X ρ φ) rfl ?_
      exact (sf_go_L24_n_t0 F (d + 1) nR nN nT gg X ρ (by omega) F φ x1 0 0 0 _ hs)
    · rw [if_neg hc] at hs
      refine qr_s hC (n := 1) (pc' := 19) (ls' := [.ref 0, .int x1, .retAddr 0, .retAddr 0, .retAddr 0]) (st' := [.int (-1)]) (h' := cs nR nN nT gg X ρ φ) rfl ?_
      have hs := Option.some.inj hs
      subst hs
      exact qr_r hC rfl rfl
/-- SketchFiller$Search.beginAnew()V -/
def se_beginAnew (F : Nat) (nR nN nT gg : Nat) (φ : qm_F) : Option qm_F :=
  some (qm_u (qm_u φ 30 7 0) 30 8 (-1))
set_option maxRecDepth 100000 in
theorem se_beginAnew_n (F d : Nat) (nR nN nT gg : Nat) (X : List (Nat × Nat)) (ρ : Nat → Nat → Option Nat) (φ : qm_F) (r : qm_F) (hd : 0 ≤ d) (hs : se_beginAnew F nR nN nT gg φ = some r) : qm_Rn d 223 0 [.ref 30] [] (cs nR nN nT gg X ρ φ) (none, cs nR nN nT gg X ρ r) := by
  have hC := qC_223
  unfold se_beginAnew at hs
  refine qr_s hC (n := 6) (pc' := 10) (ls' := [.ref 30]) (st' := []) (h' := cs nR nN nT gg X ρ (qm_u (qm_u φ 30 7 0) 30 8 (-1))) rfl ?_
  have hs := Option.some.inj hs
  subst hs
  exact qr_r hC rfl rfl
/-- SketchFiller$Search.pinTo(II)Z -/
def se_pinTo (F : Nat) (nR nN nT gg : Nat) (φ : qm_F) (x1 : Int32) (x2 : Int32) : Option (Int32 × qm_F) :=
  if x1 < 0 then
    some (0, φ)
  else
    if 5 ≤ x1 then
      some (0, φ)
    else
      qg (qm_in x1 5) <|
      if ¬ (φ 31 x1.toNatClampNeg) = x2 then
        qg (qm_in x1 5) <|
        qb1 (se_beginAnew F nR nN nT gg (qm_u φ 31 x1.toNatClampNeg x2)) fun φ1 =>
        some (1, φ1)
      else
        some (0, φ)
set_option maxRecDepth 100000 in
theorem se_pinTo_n (F d : Nat) (nR nN nT gg : Nat) (X : List (Nat × Nat)) (ρ : Nat → Nat → Option Nat) (φ : qm_F) (x1 : Int32) (x2 : Int32) (r : (Int32 × qm_F)) (hd : 1 ≤ d) (hs : se_pinTo F nR nN nT gg φ x1 x2 = some r) : qm_Rn d 227 0 [.ref 30, .int x1, .int x2] [] (cs nR nN nT gg X ρ φ) (some (.int r.1), cs nR nN nT gg X ρ r.2) := by
  obtain ⟨d, rfl⟩ : ∃ e, d = e + 1 := ⟨d - 1, by omega⟩
  have hC := qC_227
  unfold se_pinTo at hs
  refine qr_s hC (n := 1) (pc' := 1) (ls' := [.ref 30, .int x1, .int x2]) (st' := [.int x1]) (h' := cs nR nN nT gg X ρ φ) rfl ?_
  refine qr_lt1 (tgt := 23) hC rfl (by decide) rfl (fun hc => ?_) (fun hc => ?_)
  · rw [if_pos hc] at hs
    refine qr_s hC (n := 1) (pc' := 24) (ls' := [.ref 30, .int x1, .int x2]) (st' := [.int 0]) (h' := cs nR nN nT gg X ρ φ) rfl ?_
    have hs := Option.some.inj hs
    subst hs
    exact qr_r hC rfl rfl
  · rw [if_neg hc] at hs
    refine qr_s hC (n := 4) (pc' := 10) (ls' := [.ref 30, .int x1, .int x2]) (st' := [.int 5, .int x1]) (h' := cs nR nN nT gg X ρ φ) rfl ?_
    refine qr_ge2 (tgt := 23) hC rfl (by decide) rfl (fun hc => ?_) (fun hc => ?_)
    · rw [if_pos hc] at hs
      refine qr_s hC (n := 1) (pc' := 24) (ls' := [.ref 30, .int x1, .int x2]) (st' := [.int 0]) (h' := cs nR nN nT gg X ρ φ) rfl ?_
      have hs := Option.some.inj hs
      subst hs
      exact qr_r hC rfl rfl
    · rw [if_neg hc] at hs
      refine qr_s hC (n := 3) (pc' := 18) (ls' := [.ref 30, .int x1, .int x2]) (st' := [.int x1, .ref 31]) (h' := cs nR nN nT gg X ρ φ) rfl ?_
      obtain ⟨hq, hs⟩ := qg_s hs
      refine qr_ia (v := φ 31 x1.toNatClampNeg) hC rfl rfl hq rfl ?_
      refine qr_s hC (n := 1) (pc' := 20) (ls' := [.ref 30, .int x1, .int x2]) (st' := [.int x2, .int (φ 31 x1.toNatClampNeg)]) (h' := cs nR nN nT gg X ρ φ) rfl ?_
      refine qr_ne2 (tgt := 25) hC rfl (by decide) rfl (fun hc => ?_) (fun hc => ?_)
      · rw [if_pos hc] at hs
        refine qr_s hC (n := 4) (pc' := 31) (ls' := [.ref 30, .int x1, .int x2]) (st' := [.int x2, .int x1, .ref 31]) (h' := cs nR nN nT gg X ρ φ) rfl ?_
        obtain ⟨hq, hs⟩ := qg_s hs
        refine qr_is (h' := cs nR nN nT gg X ρ (qm_u φ 31 x1.toNatClampNeg x2)) hC rfl rfl hq rfl ?_
        refine qr_s hC (n := 1) (pc' := 33) (ls' := [.ref 30, .int x1, .int x2]) (st' := [.ref 30]) (h' := cs nR nN nT gg X ρ (qm_u φ 31 x1.toNatClampNeg x2)) rfl ?_
        obtain ⟨φ1, hy, hs⟩ := qb1_s hs
        refine qr_c (j := 223) (as := [.ref 30]) (rest := []) (v := none) (h1 := cs nR nN nT gg X ρ φ1) hC rfl rfl qC_223 rfl rfl (se_beginAnew_n F d nR nN nT gg X ρ (qm_u φ 31 x1.toNatClampNeg x2) _ (by omega) hy) ?_
        show qm_Rn (d + 1) 227 36 [.ref 30, .int x1, .int x2] [] (cs nR nN nT gg X ρ φ1) _
        refine qr_s hC (n := 1) (pc' := 37) (ls' := [.ref 30, .int x1, .int x2]) (st' := [.int 1]) (h' := cs nR nN nT gg X ρ φ1) rfl ?_
        have hs := Option.some.inj hs
        subst hs
        exact qr_r hC rfl rfl
      · rw [if_neg hc] at hs
        refine qr_s hC (n := 1) (pc' := 24) (ls' := [.ref 30, .int x1, .int x2]) (st' := [.int 0]) (h' := cs nR nN nT gg X ρ φ) rfl ?_
        have hs := Option.some.inj hs
        subst hs
        exact qr_r hC rfl rfl
/-- SketchFiller.pin(II)Z -/
def sf_pin (F : Nat) (nR nN nT gg : Nat) (φ : qm_F) (x1 : Int32) (x2 : Int32) : Option (Int32 × qm_F) :=
  qb1 (pr_hasHole F nR nN nT φ x1) fun y1 =>
  if ¬ y1 = 0 then
    if x2 < (-1) then
      some (0, φ)
    else
      qg (qm_in x1 5) <|
      if x2 < ((1 : Int32) <<< ((φ 16 x1.toNatClampNeg) &&& 31)) then
        qb2 (se_pinTo F nR nN nT gg φ x1 x2) fun y2 φ1 =>
        qg (qm_bz y2) (some (y2, φ1))
      else
        some (0, φ)
  else
    some (0, φ)
set_option maxRecDepth 100000 in
theorem sf_pin_n (F d : Nat) (nR nN nT gg : Nat) (X : List (Nat × Nat)) (ρ : Nat → Nat → Option Nat) (φ : qm_F) (x1 : Int32) (x2 : Int32) (r : (Int32 × qm_F)) (hd : 2 ≤ d) (hs : sf_pin F nR nN nT gg φ x1 x2 = some r) : qm_Rn d 14 0 [.ref 0, .int x1, .int x2] [] (cs nR nN nT gg X ρ φ) (some (.int r.1), cs nR nN nT gg X ρ r.2) := by
  obtain ⟨d, rfl⟩ : ∃ e, d = e + 1 := ⟨d - 1, by omega⟩
  have hC := qC_14
  unfold sf_pin at hs
  refine qr_s hC (n := 7) (pc' := 15) (ls' := [.ref 0, .int x1, .int x2]) (st' := [.int x1, .ref 14]) (h' := cs nR nN nT gg X ρ φ) rfl ?_
  obtain ⟨y1, hy, hs⟩ := qb1_s hs
  refine qr_c (j := 203) (as := [.ref 14, .int x1]) (rest := []) (v := some (.int y1)) (h1 := cs nR nN nT gg X ρ φ) hC rfl rfl qC_203 rfl rfl (pr_hasHole_n F d nR nN nT (cr_X gg (cs_X gg X)) (cr_R (cs_R ρ)) φ x1 _ (by omega) hy) ?_
  show qm_Rn (d + 1) 14 18 [.ref 0, .int x1, .int x2] [.int y1] (cs nR nN nT gg X ρ φ) _
  refine qr_ne1 (tgt := 23) hC rfl (by decide) rfl (fun hc => ?_) (fun hc => ?_)
  · rw [if_pos hc] at hs
    refine qr_s hC (n := 2) (pc' := 25) (ls' := [.ref 0, .int x1, .int x2]) (st' := [.int (-1), .int x2]) (h' := cs nR nN nT gg X ρ φ) rfl ?_
    refine qr_lt2 (tgt := 46) hC rfl (by decide) rfl (fun hc => ?_) (fun hc => ?_)
    · rw [if_pos hc] at hs
      refine qr_s hC (n := 1) (pc' := 47) (ls' := [.ref 0, .int x1, .int x2]) (st' := [.int 0]) (h' := cs nR nN nT gg X ρ φ) rfl ?_
      have hs := Option.some.inj hs
      subst hs
      exact qr_r hC rfl rfl
    · rw [if_neg hc] at hs
      refine qr_s hC (n := 7) (pc' := 41) (ls' := [.ref 0, .int x1, .int x2]) (st' := [.int x1, .ref 16, .int 1, .int x2]) (h' := cs nR nN nT gg X ρ φ) rfl ?_
      obtain ⟨hq, hs⟩ := qg_s hs
      refine qr_ia (v := φ 16 x1.toNatClampNeg) hC rfl rfl hq rfl ?_
      refine qr_s hC (n := 1) (pc' := 43) (ls' := [.ref 0, .int x1, .int x2]) (st' := [.int ((1 : Int32) <<< ((φ 16 x1.toNatClampNeg) &&& 31)), .int x2]) (h' := cs nR nN nT gg X ρ φ) rfl ?_
      refine qr_lt2 (tgt := 48) hC rfl (by decide) rfl (fun hc => ?_) (fun hc => ?_)
      · rw [if_pos hc] at hs
        refine qr_s hC (n := 4) (pc' := 54) (ls' := [.ref 0, .int x1, .int x2]) (st' := [.int x2, .int x1, .ref 30]) (h' := cs nR nN nT gg X ρ φ) rfl ?_
        obtain ⟨y2, φ1, hy, hs⟩ := qb2_s hs
        refine qr_c (j := 227) (as := [.ref 30, .int x1, .int x2]) (rest := []) (v := some (.int y2)) (h1 := cs nR nN nT gg X ρ φ1) hC rfl rfl qC_227 rfl rfl (se_pinTo_n F d nR nN nT gg X ρ φ x1 x2 _ (by omega) hy) ?_
        show qm_Rn (d + 1) 14 57 [.ref 0, .int x1, .int x2] [.int y2] (cs nR nN nT gg X ρ φ1) _
        obtain ⟨hz, hs⟩ := qg_s hs
        have hs := Option.some.inj hs
        subst hs
        exact qr_rz hC rfl hz
      · rw [if_neg hc] at hs
        refine qr_s hC (n := 1) (pc' := 47) (ls' := [.ref 0, .int x1, .int x2]) (st' := [.int 0]) (h' := cs nR nN nT gg X ρ φ) rfl ?_
        have hs := Option.some.inj hs
        subst hs
        exact qr_r hC rfl rfl
  · rw [if_neg hc] at hs
    refine qr_s hC (n := 1) (pc' := 22) (ls' := [.ref 0, .int x1, .int x2]) (st' := [.int 0]) (h' := cs nR nN nT gg X ρ φ) rfl ?_
    have hs := Option.some.inj hs
    subst hs
    exact qr_r hC rfl rfl
/-- SketchFiller$Search.keepInput(I)I -/
def se_keepInput_L37 (F : Nat) (nR nN nT gg : Nat) (φ : qm_F) (x1 : Int32) : Option (Int32 × qm_F) :=
  qb2 (se_addKept F nR nN nT gg φ x1) fun y1 φ1 =>
  if ¬ y1 = 0 then
    qb1 (se_beginAnew F nR nN nT gg φ1) fun φ2 =>
    some (φ2 30 5, φ2)
  else
    some ((-1), φ1)
def se_keepInput_L2 (F : Nat) (nR nN nT gg : Nat) : Nat → qm_F → Int32 → Int32 → Option (Int32 × qm_F)
  | 0, _, _, _ => none
  | n + 1, φ, x1, x2 =>
    if (φ 30 5) ≤ x2 then
      se_keepInput_L37 F nR nN nT gg φ x1
    else
      if 40 ≤ x2 then
        se_keepInput_L37 F nR nN nT gg φ x1
      else
        qg (qm_in x2 40) <|
        if ¬ (φ 32 x2.toNatClampNeg) = x1 then
          se_keepInput_L2 F nR nN nT gg n φ x1 (x2 + 1)
        else
          some ((-1), φ)
def se_keepInput (F : Nat) (nR nN nT gg : Nat) (φ : qm_F) (x1 : Int32) : Option (Int32 × qm_F) :=
  se_keepInput_L2 F nR nN nT gg F φ x1 0
set_option maxRecDepth 100000 in
theorem se_keepInput_L37_n (F d : Nat) (nR nN nT gg : Nat) (X : List (Nat × Nat)) (ρ : Nat → Nat → Option Nat) (hd : 1 ≤ d) (φ : qm_F) (x1 : Int32) (r : (Int32 × qm_F)) (hs : se_keepInput_L37 F nR nN nT gg φ x1 = some r) : qm_Rn d 230 37 [.ref 30, .int x1, .retAddr 0] [] (cs nR nN nT gg X ρ φ) (some (.int r.1), cs nR nN nT gg X ρ r.2) := by
  obtain ⟨d, rfl⟩ : ∃ e, d = e + 1 := ⟨d - 1, by omega⟩
  have hC := qC_230
  unfold se_keepInput_L37 at hs
  refine qr_s hC (n := 2) (pc' := 39) (ls' := [.ref 30, .int x1, .retAddr 0]) (st' := [.int x1, .ref 30]) (h' := cs nR nN nT gg X ρ φ) rfl ?_
  obtain ⟨y1, φ1, hy, hs⟩ := qb2_s hs
  refine qr_c (j := 231) (as := [.ref 30, .int x1]) (rest := []) (v := some (.int y1)) (h1 := cs nR nN nT gg X ρ φ1) hC rfl rfl qC_231 rfl rfl (se_addKept_n F d nR nN nT gg X ρ φ x1 _ (by omega) hy) ?_
  show qm_Rn (d + 1) 230 42 [.ref 30, .int x1, .retAddr 0] [.int y1] (cs nR nN nT gg X ρ φ1) _
  refine qr_ne1 (tgt := 47) hC rfl (by decide) rfl (fun hc => ?_) (fun hc => ?_)
  · rw [if_pos hc] at hs
    refine qr_s hC (n := 1) (pc' := 48) (ls' := [.ref 30, .int x1, .retAddr 0]) (st' := [.ref 30]) (h' := cs nR nN nT gg X ρ φ1) rfl ?_
    obtain ⟨φ2, hy, hs⟩ := qb1_s hs
    refine qr_c (j := 223) (as := [.ref 30]) (rest := []) (v := none) (h1 := cs nR nN nT gg X ρ φ2) hC rfl rfl qC_223 rfl rfl (se_beginAnew_n F d nR nN nT gg X ρ φ1 _ (by omega) hy) ?_
    show qm_Rn (d + 1) 230 51 [.ref 30, .int x1, .retAddr 0] [] (cs nR nN nT gg X ρ φ2) _
    refine qr_s hC (n := 2) (pc' := 55) (ls' := [.ref 30, .int x1, .retAddr 0]) (st' := [.int (φ2 30 5)]) (h' := cs nR nN nT gg X ρ φ2) rfl ?_
    have hs := Option.some.inj hs
    subst hs
    exact qr_r hC rfl rfl
  · rw [if_neg hc] at hs
    refine qr_s hC (n := 1) (pc' := 46) (ls' := [.ref 30, .int x1, .retAddr 0]) (st' := [.int (-1)]) (h' := cs nR nN nT gg X ρ φ1) rfl ?_
    have hs := Option.some.inj hs
    subst hs
    exact qr_r hC rfl rfl
set_option maxRecDepth 100000 in
theorem se_keepInput_L2_n (F d : Nat) (nR nN nT gg : Nat) (X : List (Nat × Nat)) (ρ : Nat → Nat → Option Nat) (hd : 1 ≤ d) : ∀ (n : Nat) (φ : qm_F) (x1 : Int32) (x2 : Int32) (r : (Int32 × qm_F)), se_keepInput_L2 F nR nN nT gg n φ x1 x2 = some r → qm_Rn d 230 2 [.ref 30, .int x1, .int x2] [] (cs nR nN nT gg X ρ φ) (some (.int r.1), cs nR nN nT gg X ρ r.2) := by
  obtain ⟨d, rfl⟩ : ∃ e, d = e + 1 := ⟨d - 1, by omega⟩
  have hC := qC_230
  intro n
  induction n with
  | zero => intro φ x1 x2 r hs; simp [se_keepInput_L2] at hs
  | succ n ih =>
    intro φ x1 x2 r hs
    rw [se_keepInput_L2] at hs
    refine qr_s hC (n := 3) (pc' := 7) (ls' := [.ref 30, .int x1, .int x2]) (st' := [.int (φ 30 5), .int x2]) (h' := cs nR nN nT gg X ρ φ) rfl ?_
    refine qr_ge2 (tgt := 37) hC rfl (by decide) rfl (fun hc => ?_) (fun hc => ?_)
    · rw [if_pos hc] at hs
      exact qr_w (a := [.ref 30, .int x1, .retAddr 0]) ⟨Or.inr rfl, Or.inr rfl, Or.inl rfl, trivial⟩ (se_keepInput_L37_n F (d + 1) nR nN nT gg X ρ (by omega) φ x1 _ hs)
    · rw [if_neg hc] at hs
      refine qr_s hC (n := 4) (pc' := 16) (ls' := [.ref 30, .int x1, .int x2]) (st' := [.int 40, .int x2]) (h' := cs nR nN nT gg X ρ φ) rfl ?_
      refine qr_ge2 (tgt := 37) hC rfl (by decide) rfl (fun hc => ?_) (fun hc => ?_)
      · rw [if_pos hc] at hs
        exact qr_w (a := [.ref 30, .int x1, .retAddr 0]) ⟨Or.inr rfl, Or.inr rfl, Or.inl rfl, trivial⟩ (se_keepInput_L37_n F (d + 1) nR nN nT gg X ρ (by omega) φ x1 _ hs)
      · rw [if_neg hc] at hs
        refine qr_s hC (n := 3) (pc' := 24) (ls' := [.ref 30, .int x1, .int x2]) (st' := [.int x2, .ref 32]) (h' := cs nR nN nT gg X ρ φ) rfl ?_
        obtain ⟨hq, hs⟩ := qg_s hs
        refine qr_ia (v := φ 32 x2.toNatClampNeg) hC rfl rfl hq rfl ?_
        refine qr_s hC (n := 1) (pc' := 26) (ls' := [.ref 30, .int x1, .int x2]) (st' := [.int x1, .int (φ 32 x2.toNatClampNeg)]) (h' := cs nR nN nT gg X ρ φ) rfl ?_
        refine qr_ne2 (tgt := 31) hC rfl (by decide) rfl (fun hc => ?_) (fun hc => ?_)
        · rw [if_pos hc] at hs
          refine qr_s hC (n := 2) (pc' := 2) (ls' := [.ref 30, .int x1, .int (x2 + 1)]) (st' := []) (h' := cs nR nN nT gg X ρ φ) rfl ?_
          exact ih φ x1 (x2 + 1) _ hs
        · rw [if_neg hc] at hs
          refine qr_s hC (n := 1) (pc' := 30) (ls' := [.ref 30, .int x1, .int x2]) (st' := [.int (-1)]) (h' := cs nR nN nT gg X ρ φ) rfl ?_
          have hs := Option.some.inj hs
          subst hs
          exact qr_r hC rfl rfl
set_option maxRecDepth 100000 in
theorem se_keepInput_n (F d : Nat) (nR nN nT gg : Nat) (X : List (Nat × Nat)) (ρ : Nat → Nat → Option Nat) (φ : qm_F) (x1 : Int32) (r : (Int32 × qm_F)) (hd : 1 ≤ d) (hs : se_keepInput F nR nN nT gg φ x1 = some r) : qm_Rn d 230 0 [.ref 30, .int x1, .retAddr 0] [] (cs nR nN nT gg X ρ φ) (some (.int r.1), cs nR nN nT gg X ρ r.2) := by
  obtain ⟨d, rfl⟩ : ∃ e, d = e + 1 := ⟨d - 1, by omega⟩
  have hC := qC_230
  unfold se_keepInput at hs
  refine qr_s hC (n := 2) (pc' := 2) (ls' := [.ref 30, .int x1, .int 0]) (st' := []) (h' := cs nR nN nT gg X ρ φ) rfl ?_
  exact se_keepInput_L2_n F (d + 1) nR nN nT gg X ρ (by omega) F φ x1 0 _ hs
/-- SketchFiller.keep(I)I -/
def sf_keep (F : Nat) (nR nN nT gg : Nat) (φ : qm_F) (x1 : Int32) : Option (Int32 × qm_F) :=
  qb1 (pr_hasInput F nR nN nT φ x1) fun y1 =>
  if ¬ y1 = 0 then
    qb2 (se_keepInput F nR nN nT gg φ x1) fun y2 φ1 =>
    some (y2, φ1)
  else
    some ((-1), φ)
set_option maxRecDepth 100000 in
theorem sf_keep_n (F d : Nat) (nR nN nT gg : Nat) (X : List (Nat × Nat)) (ρ : Nat → Nat → Option Nat) (φ : qm_F) (x1 : Int32) (r : (Int32 × qm_F)) (hd : 2 ≤ d) (hs : sf_keep F nR nN nT gg φ x1 = some r) : qm_Rn d 15 0 [.ref 0, .int x1] [] (cs nR nN nT gg X ρ φ) (some (.int r.1), cs nR nN nT gg X ρ r.2) := by
  obtain ⟨d, rfl⟩ : ∃ e, d = e + 1 := ⟨d - 1, by omega⟩
  have hC := qC_15
  unfold sf_keep at hs
  refine qr_s hC (n := 7) (pc' := 15) (ls' := [.ref 0, .int x1]) (st' := [.int x1, .ref 14]) (h' := cs nR nN nT gg X ρ φ) rfl ?_
  obtain ⟨y1, hy, hs⟩ := qb1_s hs
  refine qr_c (j := 205) (as := [.ref 14, .int x1]) (rest := []) (v := some (.int y1)) (h1 := cs nR nN nT gg X ρ φ) hC rfl rfl qC_205 rfl rfl (pr_hasInput_n F d nR nN nT (cr_X gg (cs_X gg X)) (cr_R (cs_R ρ)) φ x1 _ (by omega) hy) ?_
  show qm_Rn (d + 1) 15 18 [.ref 0, .int x1] [.int y1] (cs nR nN nT gg X ρ φ) _
  refine qr_ne1 (tgt := 23) hC rfl (by decide) rfl (fun hc => ?_) (fun hc => ?_)
  · rw [if_pos hc] at hs
    refine qr_s hC (n := 3) (pc' := 28) (ls' := [.ref 0, .int x1]) (st' := [.int x1, .ref 30]) (h' := cs nR nN nT gg X ρ φ) rfl ?_
    obtain ⟨y2, φ1, hy, hs⟩ := qb2_s hs
    refine qr_c (j := 230) (as := [.ref 30, .int x1]) (rest := []) (v := some (.int y2)) (h1 := cs nR nN nT gg X ρ φ1) hC rfl rfl qC_230 rfl rfl (se_keepInput_n F d nR nN nT gg X ρ φ x1 _ (by omega) hy) ?_
    show qm_Rn (d + 1) 15 31 [.ref 0, .int x1] [.int y2] (cs nR nN nT gg X ρ φ1) _
    have hs := Option.some.inj hs
    subst hs
    exact qr_r hC rfl rfl
  · rw [if_neg hc] at hs
    refine qr_s hC (n := 1) (pc' := 22) (ls' := [.ref 0, .int x1]) (st' := [.int (-1)]) (h' := cs nR nN nT gg X ρ φ) rfl ?_
    have hs := Option.some.inj hs
    subst hs
    exact qr_r hC rfl rfl
/-- SketchFiller$Search.hasKept(I)Z -/
def se_hasKept (F : Nat) (nR nN nT gg : Nat) (φ : qm_F) (x1 : Int32) : Option Int32 :=
  if x1 < 0 then
    some 0
  else
    if (φ 30 5) ≤ x1 then
      some 0
    else
      if 40 ≤ x1 then
        some 0
      else
        some 1
set_option maxRecDepth 100000 in
theorem se_hasKept_n (F d : Nat) (nR nN nT gg : Nat) (X : List (Nat × Nat)) (ρ : Nat → Nat → Option Nat) (φ : qm_F) (x1 : Int32) (r : Int32) (hd : 0 ≤ d) (hs : se_hasKept F nR nN nT gg φ x1 = some r) : qm_Rn d 228 0 [.ref 30, .int x1] [] (cs nR nN nT gg X ρ φ) (some (.int r), cs nR nN nT gg X ρ φ) := by
  have hC := qC_228
  unfold se_hasKept at hs
  refine qr_s hC (n := 1) (pc' := 1) (ls' := [.ref 30, .int x1]) (st' := [.int x1]) (h' := cs nR nN nT gg X ρ φ) rfl ?_
  refine qr_lt1 (tgt := 25) hC rfl (by decide) rfl (fun hc => ?_) (fun hc => ?_)
  · rw [if_pos hc] at hs
    refine qr_s hC (n := 1) (pc' := 26) (ls' := [.ref 30, .int x1]) (st' := [.int 0]) (h' := cs nR nN nT gg X ρ φ) rfl ?_
    have hs := Option.some.inj hs
    subst hs
    exact qr_r hC rfl rfl
  · rw [if_neg hc] at hs
    refine qr_s hC (n := 3) (pc' := 9) (ls' := [.ref 30, .int x1]) (st' := [.int (φ 30 5), .int x1]) (h' := cs nR nN nT gg X ρ φ) rfl ?_
    refine qr_ge2 (tgt := 25) hC rfl (by decide) rfl (fun hc => ?_) (fun hc => ?_)
    · rw [if_pos hc] at hs
      refine qr_s hC (n := 1) (pc' := 26) (ls' := [.ref 30, .int x1]) (st' := [.int 0]) (h' := cs nR nN nT gg X ρ φ) rfl ?_
      have hs := Option.some.inj hs
      subst hs
      exact qr_r hC rfl rfl
    · rw [if_neg hc] at hs
      refine qr_s hC (n := 4) (pc' := 18) (ls' := [.ref 30, .int x1]) (st' := [.int 40, .int x1]) (h' := cs nR nN nT gg X ρ φ) rfl ?_
      refine qr_ge2 (tgt := 25) hC rfl (by decide) rfl (fun hc => ?_) (fun hc => ?_)
      · rw [if_pos hc] at hs
        refine qr_s hC (n := 1) (pc' := 26) (ls' := [.ref 30, .int x1]) (st' := [.int 0]) (h' := cs nR nN nT gg X ρ φ) rfl ?_
        have hs := Option.some.inj hs
        subst hs
        exact qr_r hC rfl rfl
      · rw [if_neg hc] at hs
        refine qr_s hC (n := 2) (pc' := 26) (ls' := [.ref 30, .int x1]) (st' := [.int 1]) (h' := cs nR nN nT gg X ρ φ) rfl ?_
        have hs := Option.some.inj hs
        subst hs
        exact qr_r hC rfl rfl
/-- SketchFiller$Search.keptAt(I)I -/
def se_keptAt (F : Nat) (nR nN nT gg : Nat) (φ : qm_F) (x1 : Int32) : Option Int32 :=
  qb1 (se_hasKept F nR nN nT gg φ x1) fun y1 =>
  if y1 = 0 then
    some (-1)
  else
    qg (qm_in x1 40) <|
    some (φ 32 x1.toNatClampNeg)
set_option maxRecDepth 100000 in
theorem se_keptAt_n (F d : Nat) (nR nN nT gg : Nat) (X : List (Nat × Nat)) (ρ : Nat → Nat → Option Nat) (φ : qm_F) (x1 : Int32) (r : Int32) (hd : 1 ≤ d) (hs : se_keptAt F nR nN nT gg φ x1 = some r) : qm_Rn d 229 0 [.ref 30, .int x1] [] (cs nR nN nT gg X ρ φ) (some (.int r), cs nR nN nT gg X ρ φ) := by
  obtain ⟨d, rfl⟩ : ∃ e, d = e + 1 := ⟨d - 1, by omega⟩
  have hC := qC_229
  unfold se_keptAt at hs
  refine qr_s hC (n := 2) (pc' := 2) (ls' := [.ref 30, .int x1]) (st' := [.int x1, .ref 30]) (h' := cs nR nN nT gg X ρ φ) rfl ?_
  obtain ⟨y1, hy, hs⟩ := qb1_s hs
  refine qr_c (j := 228) (as := [.ref 30, .int x1]) (rest := []) (v := some (.int y1)) (h1 := cs nR nN nT gg X ρ φ) hC rfl rfl qC_228 rfl rfl (se_hasKept_n F d nR nN nT gg X ρ φ x1 _ (by omega) hy) ?_
  show qm_Rn (d + 1) 229 5 [.ref 30, .int x1] [.int y1] (cs nR nN nT gg X ρ φ) _
  refine qr_eq1 (tgt := 17) hC rfl (by decide) rfl (fun hc => ?_) (fun hc => ?_)
  · rw [if_pos hc] at hs
    refine qr_s hC (n := 1) (pc' := 18) (ls' := [.ref 30, .int x1]) (st' := [.int (-1)]) (h' := cs nR nN nT gg X ρ φ) rfl ?_
    have hs := Option.some.inj hs
    subst hs
    exact qr_r hC rfl rfl
  · rw [if_neg hc] at hs
    refine qr_s hC (n := 3) (pc' := 13) (ls' := [.ref 30, .int x1]) (st' := [.int x1, .ref 32]) (h' := cs nR nN nT gg X ρ φ) rfl ?_
    obtain ⟨hq, hs⟩ := qg_s hs
    refine qr_ia (v := φ 32 x1.toNatClampNeg) hC rfl rfl hq rfl ?_
    refine qr_s hC (n := 1) (pc' := 18) (ls' := [.ref 30, .int x1]) (st' := [.int (φ 32 x1.toNatClampNeg)]) (h' := cs nR nN nT gg X ρ φ) rfl ?_
    have hs := Option.some.inj hs
    subst hs
    exact qr_r hC rfl rfl
/-- SketchFiller$Search.dropKept(I)I -/
def se_dropKept_L56 (F : Nat) (nR nN nT gg : Nat) (φ : qm_F) (x2 : Int32) : Option (Int32 × qm_F) :=
  qb1 (se_beginAnew F nR nN nT gg (qm_u φ 30 5 ((φ 30 5) - 1))) fun φ1 =>
  some (x2, φ1)
def se_dropKept_L15 (F : Nat) (nR nN nT gg : Nat) : Nat → qm_F → Int32 → Int32 → Option (Int32 × qm_F)
  | 0, _, _, _ => none
  | n + 1, φ, x2, x3 =>
    if (φ 30 5) ≤ (x3 + 1) then
      se_dropKept_L56 F nR nN nT gg φ x2
    else
      if 40 ≤ (x3 + 1) then
        se_dropKept_L56 F nR nN nT gg φ x2
      else
        qg (qm_in (x3 + 1) 40) <|
        qg (qm_in x3 40) <|
        se_dropKept_L15 F nR nN nT gg n (qm_u φ 32 x3.toNatClampNeg (φ 32 ((x3 + 1).toNatClampNeg))) x2 (x3 + 1)
def se_dropKept (F : Nat) (nR nN nT gg : Nat) (φ : qm_F) (x1 : Int32) : Option (Int32 × qm_F) :=
  qb1 (se_keptAt F nR nN nT gg φ x1) fun y1 =>
  if ¬ y1 = (-1) then
    se_dropKept_L15 F nR nN nT gg F φ y1 x1
  else
    some ((-1), φ)
set_option maxRecDepth 100000 in
theorem se_dropKept_L56_n (F d : Nat) (nR nN nT gg : Nat) (X : List (Nat × Nat)) (ρ : Nat → Nat → Option Nat) (hd : 2 ≤ d) (φ : qm_F) (x2 : Int32) (r : (Int32 × qm_F)) (hs : se_dropKept_L56 F nR nN nT gg φ x2 = some r) : qm_Rn d 232 56 [.ref 30, .retAddr 0, .int x2, .retAddr 0] [] (cs nR nN nT gg X ρ φ) (some (.int r.1), cs nR nN nT gg X ρ r.2) := by
  obtain ⟨d, rfl⟩ : ∃ e, d = e + 1 := ⟨d - 1, by omega⟩
  have hC := qC_232
  unfold se_dropKept_L56 at hs
  refine qr_s hC (n := 7) (pc' := 67) (ls' := [.ref 30, .retAddr 0, .int x2, .retAddr 0]) (st' := [.ref 30]) (h' := cs nR nN nT gg X ρ (qm_u φ 30 5 ((φ 30 5) - 1))) rfl ?_
  obtain ⟨φ1, hy, hs⟩ := qb1_s hs
  refine qr_c (j := 223) (as := [.ref 30]) (rest := []) (v := none) (h1 := cs nR nN nT gg X ρ φ1) hC rfl rfl qC_223 rfl rfl (se_beginAnew_n F d nR nN nT gg X ρ (qm_u φ 30 5 ((φ 30 5) - 1)) _ (by omega) hy) ?_
  show qm_Rn (d + 1) 232 70 [.ref 30, .retAddr 0, .int x2, .retAddr 0] [] (cs nR nN nT gg X ρ φ1) _
  refine qr_s hC (n := 1) (pc' := 71) (ls' := [.ref 30, .retAddr 0, .int x2, .retAddr 0]) (st' := [.int x2]) (h' := cs nR nN nT gg X ρ φ1) rfl ?_
  have hs := Option.some.inj hs
  subst hs
  exact qr_r hC rfl rfl
set_option maxRecDepth 100000 in
theorem se_dropKept_L15_n (F d : Nat) (nR nN nT gg : Nat) (X : List (Nat × Nat)) (ρ : Nat → Nat → Option Nat) (hd : 2 ≤ d) : ∀ (n : Nat) (φ : qm_F) (x2 : Int32) (x3 : Int32) (r : (Int32 × qm_F)), se_dropKept_L15 F nR nN nT gg n φ x2 x3 = some r → qm_Rn d 232 15 [.ref 30, .retAddr 0, .int x2, .int x3] [] (cs nR nN nT gg X ρ φ) (some (.int r.1), cs nR nN nT gg X ρ r.2) := by
  obtain ⟨d, rfl⟩ : ∃ e, d = e + 1 := ⟨d - 1, by omega⟩
  have hC := qC_232
  intro n
  induction n with
  | zero => intro φ x2 x3 r hs; simp [se_dropKept_L15] at hs
  | succ n ih =>
    intro φ x2 x3 r hs
    rw [se_dropKept_L15] at hs
    refine qr_s hC (n := 5) (pc' := 22) (ls' := [.ref 30, .retAddr 0, .int x2, .int x3]) (st' := [.int (φ 30 5), .int (x3 + 1)]) (h' := cs nR nN nT gg X ρ φ) rfl ?_
    refine qr_ge2 (tgt := 56) hC rfl (by decide) rfl (fun hc => ?_) (fun hc => ?_)
    · rw [if_pos hc] at hs
      exact qr_w (a := [.ref 30, .retAddr 0, .int x2, .retAddr 0]) ⟨Or.inr rfl, Or.inr rfl, Or.inr rfl, Or.inl rfl, trivial⟩ (se_dropKept_L56_n F (d + 1) nR nN nT gg X ρ (by omega) φ x2 _ hs)
    · rw [if_neg hc] at hs
      refine qr_s hC (n := 6) (pc' := 33) (ls' := [.ref 30, .retAddr 0, .int x2, .int x3]) (st' := [.int 40, .int (x3 + 1)]) (h' := cs nR nN nT gg X ρ φ) rfl ?_
      refine qr_ge2 (tgt := 56) hC rfl (by decide) rfl (fun hc => ?_) (fun hc => ?_)
      · rw [if_pos hc] at hs
        exact qr_w (a := [.ref 30, .retAddr 0, .int x2, .retAddr 0]) ⟨Or.inr rfl, Or.inr rfl, Or.inr rfl, Or.inl rfl, trivial⟩ (se_dropKept_L56_n F (d + 1) nR nN nT gg X ρ (by omega) φ x2 _ hs)
      · rw [if_neg hc] at hs
        refine qr_s hC (n := 8) (pc' := 48) (ls' := [.ref 30, .retAddr 0, .int x2, .int x3]) (st' := [.int (x3 + 1), .ref 32, .int x3, .ref 32]) (h' := cs nR nN nT gg X ρ φ) rfl ?_
        obtain ⟨hq, hs⟩ := qg_s hs
        refine qr_ia (v := φ 32 ((x3 + 1).toNatClampNeg)) hC rfl rfl hq rfl ?_
        obtain ⟨hq, hs⟩ := qg_s hs
        refine qr_is (h' := cs nR nN nT gg X ρ (qm_u φ 32 x3.toNatClampNeg (φ 32 ((x3 + 1).toNatClampNeg)))) hC rfl rfl hq rfl ?_
        refine qr_s hC (n := 2) (pc' := 15) (ls' := [.ref 30, .retAddr 0, .int x2, .int (x3 + 1)]) (st' := []) (h' := cs nR nN nT gg X ρ (qm_u φ 32 x3.toNatClampNeg (φ 32 ((x3 + 1).toNatClampNeg)))) rfl ?_
        exact ih (qm_u φ 32 x3.toNatClampNeg (φ 32 ((x3 + 1).toNatClampNeg))) x2 (x3 + 1) _ hs
set_option maxRecDepth 100000 in
theorem se_dropKept_n (F d : Nat) (nR nN nT gg : Nat) (X : List (Nat × Nat)) (ρ : Nat → Nat → Option Nat) (φ : qm_F) (x1 : Int32) (r : (Int32 × qm_F)) (hd : 2 ≤ d) (hs : se_dropKept F nR nN nT gg φ x1 = some r) : qm_Rn d 232 0 [.ref 30, .int x1, .retAddr 0, .retAddr 0] [] (cs nR nN nT gg X ρ φ) (some (.int r.1), cs nR nN nT gg X ρ r.2) := by
  obtain ⟨d, rfl⟩ : ∃ e, d = e + 1 := ⟨d - 1, by omega⟩
  have hC := qC_232
  unfold se_dropKept at hs
  refine qr_s hC (n := 2) (pc' := 2) (ls' := [.ref 30, .int x1, .retAddr 0, .retAddr 0]) (st' := [.int x1, .ref 30]) (h' := cs nR nN nT gg X ρ φ) rfl ?_
  obtain ⟨y1, hy, hs⟩ := qb1_s hs
  refine qr_c (j := 229) (as := [.ref 30, .int x1]) (rest := []) (v := some (.int y1)) (h1 := cs nR nN nT gg X ρ φ) hC rfl rfl qC_229 rfl rfl (se_keptAt_n F d nR nN nT gg X ρ φ x1 _ (by omega) hy) ?_
  show qm_Rn (d + 1) 232 5 [.ref 30, .int x1, .retAddr 0, .retAddr 0] [.int y1] (cs nR nN nT gg X ρ φ) _
  refine qr_s hC (n := 3) (pc' := 8) (ls' := [.ref 30, .int x1, .int y1, .retAddr 0]) (st' := [.int (-1), .int y1]) (h' := cs nR nN nT gg X ρ φ) rfl ?_
  refine qr_ne2 (tgt := 13) hC rfl (by decide) rfl (fun hc => ?_) (fun hc => ?_)
  · rw [if_pos hc] at hs
    refine qr_s hC (n := 2) (pc' := 15) (ls' := [.ref 30, .int x1, .int y1, .int x1]) (st' := []) (h' := cs nR nN nT gg X ρ φ) rfl ?_
    exact qr_w (a := [.ref 30, .retAddr 0, .int y1, .int x1]) ⟨Or.inr rfl, Or.inl rfl, Or.inr rfl, Or.inr rfl, trivial⟩ (se_dropKept_L15_n F (d + 1) nR nN nT gg X ρ (by omega) F φ y1 x1 _ hs)
  · rw [if_neg hc] at hs
    refine qr_s hC (n := 1) (pc' := 12) (ls' := [.ref 30, .int x1, .int y1, .retAddr 0]) (st' := [.int (-1)]) (h' := cs nR nN nT gg X ρ φ) rfl ?_
    have hs := Option.some.inj hs
    subst hs
    exact qr_r hC rfl rfl
/-- SketchFiller.drop(I)I -/
def sf_drop (F : Nat) (nR nN nT gg : Nat) (φ : qm_F) (x1 : Int32) : Option (Int32 × qm_F) :=
  qb1 (se_hasKept F nR nN nT gg φ x1) fun y1 =>
  if ¬ y1 = 0 then
    qb2 (se_dropKept F nR nN nT gg φ x1) fun y2 φ1 =>
    some (y2, φ1)
  else
    some ((-1), φ)
set_option maxRecDepth 100000 in
theorem sf_drop_n (F d : Nat) (nR nN nT gg : Nat) (X : List (Nat × Nat)) (ρ : Nat → Nat → Option Nat) (φ : qm_F) (x1 : Int32) (r : (Int32 × qm_F)) (hd : 3 ≤ d) (hs : sf_drop F nR nN nT gg φ x1 = some r) : qm_Rn d 16 0 [.ref 0, .int x1] [] (cs nR nN nT gg X ρ φ) (some (.int r.1), cs nR nN nT gg X ρ r.2) := by
  obtain ⟨d, rfl⟩ : ∃ e, d = e + 1 := ⟨d - 1, by omega⟩
  have hC := qC_16
  unfold sf_drop at hs
  refine qr_s hC (n := 6) (pc' := 12) (ls' := [.ref 0, .int x1]) (st' := [.int x1, .ref 30]) (h' := cs nR nN nT gg X ρ φ) rfl ?_
  obtain ⟨y1, hy, hs⟩ := qb1_s hs
  refine qr_c (j := 228) (as := [.ref 30, .int x1]) (rest := []) (v := some (.int y1)) (h1 := cs nR nN nT gg X ρ φ) hC rfl rfl qC_228 rfl rfl (se_hasKept_n F d nR nN nT gg X ρ φ x1 _ (by omega) hy) ?_
  show qm_Rn (d + 1) 16 15 [.ref 0, .int x1] [.int y1] (cs nR nN nT gg X ρ φ) _
  refine qr_ne1 (tgt := 20) hC rfl (by decide) rfl (fun hc => ?_) (fun hc => ?_)
  · rw [if_pos hc] at hs
    refine qr_s hC (n := 3) (pc' := 25) (ls' := [.ref 0, .int x1]) (st' := [.int x1, .ref 30]) (h' := cs nR nN nT gg X ρ φ) rfl ?_
    obtain ⟨y2, φ1, hy, hs⟩ := qb2_s hs
    refine qr_c (j := 232) (as := [.ref 30, .int x1]) (rest := []) (v := some (.int y2)) (h1 := cs nR nN nT gg X ρ φ1) hC rfl rfl qC_232 rfl rfl (se_dropKept_n F d nR nN nT gg X ρ φ x1 _ (by omega) hy) ?_
    show qm_Rn (d + 1) 16 28 [.ref 0, .int x1] [.int y2] (cs nR nN nT gg X ρ φ1) _
    have hs := Option.some.inj hs
    subst hs
    exact qr_r hC rfl rfl
  · rw [if_neg hc] at hs
    refine qr_s hC (n := 1) (pc' := 19) (ls' := [.ref 0, .int x1]) (st' := [.int (-1)]) (h' := cs nR nN nT gg X ρ φ) rfl ?_
    have hs := Option.some.inj hs
    subst hs
    exact qr_r hC rfl rfl
/-- SketchFiller$Verdicts.unroll()I -/
def ve_unroll (F : Nat) (nR nN nT gg : Nat) (φ : qm_F) : Option Int32 :=
  some (φ 25 3)
set_option maxRecDepth 100000 in
theorem ve_unroll_n (F d : Nat) (nR nN nT gg : Nat) (X : List (Nat × Nat)) (ρ : Nat → Nat → Option Nat) (φ : qm_F) (r : Int32) (hd : 0 ≤ d) (hs : ve_unroll F nR nN nT gg φ = some r) : qm_Rn d 273 0 [.ref 25] [] (cs nR nN nT gg X ρ φ) (some (.int r), cs nR nN nT gg X ρ φ) := by
  have hC := qC_273
  unfold ve_unroll at hs
  refine qr_s hC (n := 2) (pc' := 4) (ls' := [.ref 25]) (st' := [.int (φ 25 3)]) (h' := cs nR nN nT gg X ρ φ) rfl ?_
  have hs := Option.some.inj hs
  subst hs
  exact qr_r hC rfl rfl
/-- java/util/Arrays.fill([BB)V -/
def ja_fillRow_L5 (F : Nat) (nR nN nT gg : Nat) : Nat → qm_F → Int32 → Int32 → Int32 → Option qm_F
  | 0, _, _, _, _ => none
  | n + 1, φ, x1, x2, x3 =>
    if x3 ≤ x2 then
      some φ
    else
      qg (qm_in x2 nR) <|
      ja_fillRow_L5 F nR nN nT gg n (qm_u φ 3 x2.toNatClampNeg (qm_by x1)) x1 (x2 + 1) x3
def ja_fillRow (F : Nat) (nR nN nT gg : Nat) (φ : qm_F) (x1 : Int32) : Option qm_F :=
  qg (decide (nR < 2147483648)) <|
  ja_fillRow_L5 F nR nN nT gg F φ x1 0 (Int32.ofNat nR)
set_option maxRecDepth 100000 in
theorem ja_fillRow_L5_n (F d : Nat) (nR nN nT gg : Nat) (X : List (Nat × Nat)) (ρ : Nat → Nat → Option Nat) (hd : 0 ≤ d) : ∀ (n : Nat) (φ : qm_F) (x1 : Int32) (x2 : Int32) (x3 : Int32) (r : qm_F), ja_fillRow_L5 F nR nN nT gg n φ x1 x2 x3 = some r → qm_Rn d 281 5 [.ref 3, .int x1, .int x2, .int x3] [] (cs nR nN nT gg X ρ φ) (none, cs nR nN nT gg X ρ r) := by
  have hC := qC_281
  intro n
  induction n with
  | zero => intro φ x1 x2 x3 r hs; simp [ja_fillRow_L5] at hs
  | succ n ih =>
    intro φ x1 x2 x3 r hs
    rw [ja_fillRow_L5] at hs
    refine qr_s hC (n := 2) (pc' := 7) (ls' := [.ref 3, .int x1, .int x2, .int x3]) (st' := [.int x3, .int x2]) (h' := cs nR nN nT gg X ρ φ) rfl ?_
    refine qr_ge2 (tgt := 20) hC rfl (by decide) rfl (fun hc => ?_) (fun hc => ?_)
    · rw [if_pos hc] at hs
      have hs := Option.some.inj hs
      subst hs
      exact qr_r hC rfl rfl
    · rw [if_neg hc] at hs
      refine qr_s hC (n := 3) (pc' := 13) (ls' := [.ref 3, .int x1, .int x2, .int x3]) (st' := [.int x1, .int x2, .ref 3]) (h' := cs nR nN nT gg X ρ φ) rfl ?_
      obtain ⟨hq, hs⟩ := qg_s hs
      refine qr_bs (h' := cs nR nN nT gg X ρ (qm_u φ 3 x2.toNatClampNeg (qm_by x1))) hC rfl rfl hq rfl ?_
      refine qr_s hC (n := 2) (pc' := 5) (ls' := [.ref 3, .int x1, .int (x2 + 1), .int x3]) (st' := []) (h' := cs nR nN nT gg X ρ (qm_u φ 3 x2.toNatClampNeg (qm_by x1))) rfl ?_
      exact ih (qm_u φ 3 x2.toNatClampNeg (qm_by x1)) x1 (x2 + 1) x3 _ hs
set_option maxRecDepth 100000 in
theorem ja_fillRow_n (F d : Nat) (nR nN nT gg : Nat) (X : List (Nat × Nat)) (ρ : Nat → Nat → Option Nat) (φ : qm_F) (x1 : Int32) (r : qm_F) (hd : 0 ≤ d) (hs : ja_fillRow F nR nN nT gg φ x1 = some r) : qm_Rn d 281 0 [.ref 3, .int x1, .retAddr 0, .retAddr 0] [] (cs nR nN nT gg X ρ φ) (none, cs nR nN nT gg X ρ r) := by
  have hC := qC_281
  unfold ja_fillRow at hs
  refine qr_s hC (n := 3) (pc' := 3) (ls' := [.ref 3, .int x1, .int 0, .retAddr 0]) (st' := [.ref 3]) (h' := cs nR nN nT gg X ρ φ) rfl ?_
  obtain ⟨hq, hs⟩ := qg_s hs
  refine qr_al hC rfl rfl hq ?_
  refine qr_s hC (n := 1) (pc' := 5) (ls' := [.ref 3, .int x1, .int 0, .int (Int32.ofNat nR)]) (st' := []) (h' := cs nR nN nT gg X ρ φ) rfl ?_
  exact ja_fillRow_L5_n F d nR nN nT gg X ρ (by omega) F φ x1 0 (Int32.ofNat nR) _ hs
/-- SketchFiller$Verdicts.forget()V -/
def ve_forget (F : Nat) (nR nN nT gg : Nat) (φ : qm_F) : Option qm_F :=
  qb1 (ja_fillRow F nR nN nT gg φ 0) fun φ1 =>
  some φ1
set_option maxRecDepth 100000 in
theorem ve_forget_n (F d : Nat) (nR nN nT gg : Nat) (X : List (Nat × Nat)) (ρ : Nat → Nat → Option Nat) (φ : qm_F) (r : qm_F) (hd : 1 ≤ d) (hs : ve_forget F nR nN nT gg φ = some r) : qm_Rn d 272 0 [.ref 25] [] (cs nR nN nT gg X ρ φ) (none, cs nR nN nT gg X ρ r) := by
  obtain ⟨d, rfl⟩ : ∃ e, d = e + 1 := ⟨d - 1, by omega⟩
  have hC := qC_272
  unfold ve_forget at hs
  refine qr_s hC (n := 3) (pc' := 5) (ls' := [.ref 25]) (st' := [.int 0, .ref 3]) (h' := cs nR nN nT gg X ρ φ) rfl ?_
  obtain ⟨φ1, hy, hs⟩ := qb1_s hs
  refine qr_c (j := 281) (as := [.ref 3, .int 0]) (rest := []) (v := none) (h1 := cs nR nN nT gg X ρ φ1) hC rfl rfl qC_281 rfl rfl (ja_fillRow_n F d nR nN nT gg X ρ φ 0 _ (by omega) hy) ?_
  show qm_Rn (d + 1) 272 8 [.ref 25] [] (cs nR nN nT gg X ρ φ1) _
  have hs := Option.some.inj hs
  subst hs
  exact qr_r hC rfl rfl
/-- SketchFiller$Verdicts.tellUnroll(I)V -/
def ve_tellUnroll (F : Nat) (nR nN nT gg : Nat) (φ : qm_F) (x1 : Int32) : Option qm_F :=
  qb1 (ve_forget F nR nN nT gg (qm_u φ 25 3 x1)) fun φ1 =>
  some φ1
set_option maxRecDepth 100000 in
theorem ve_tellUnroll_n (F d : Nat) (nR nN nT gg : Nat) (X : List (Nat × Nat)) (ρ : Nat → Nat → Option Nat) (φ : qm_F) (x1 : Int32) (r : qm_F) (hd : 2 ≤ d) (hs : ve_tellUnroll F nR nN nT gg φ x1 = some r) : qm_Rn d 274 0 [.ref 25, .int x1] [] (cs nR nN nT gg X ρ φ) (none, cs nR nN nT gg X ρ r) := by
  obtain ⟨d, rfl⟩ : ∃ e, d = e + 1 := ⟨d - 1, by omega⟩
  have hC := qC_274
  unfold ve_tellUnroll at hs
  refine qr_s hC (n := 4) (pc' := 6) (ls' := [.ref 25, .int x1]) (st' := [.ref 25]) (h' := cs nR nN nT gg X ρ (qm_u φ 25 3 x1)) rfl ?_
  obtain ⟨φ1, hy, hs⟩ := qb1_s hs
  refine qr_c (j := 272) (as := [.ref 25]) (rest := []) (v := none) (h1 := cs nR nN nT gg X ρ φ1) hC rfl rfl qC_272 rfl rfl (ve_forget_n F d nR nN nT gg X ρ (qm_u φ 25 3 x1) _ (by omega) hy) ?_
  show qm_Rn (d + 1) 274 9 [.ref 25, .int x1] [] (cs nR nN nT gg X ρ φ1) _
  have hs := Option.some.inj hs
  subst hs
  exact qr_r hC rfl rfl
