/-- SketchFiller$Parser.endedBy(II)Z -/
def pa_endedBy (F : Nat) (nR nN nT : Nat) (φ : qm_F) (x1 : Int32) (x2 : Int32) : Option (Int32 × qm_F) :=
  qb2 (cg_E F nR nN nT 80 0 φ 0 0) fun y1 φ1 =>
  if y1 = 0 then
    some (0, φ1)
  else
    qb2 (pa_take F nR nN nT φ1 59) fun y2 φ2 =>
    if ¬ y2 = 0 then
      qb2 (pr_emit F nR nN nT φ2 x1 x2 0) fun y3 φ3 =>
      some (1, φ3)
    else
      some (0, φ2)
set_option maxRecDepth 100000 in
theorem pa_endedBy_n (F d : Nat) (nR nN nT : Nat) (X : List (Nat × Nat)) (ρ : Nat → Nat → Option Nat) (φ : qm_F) (x1 : Int32) (x2 : Int32) (r : (Int32 × qm_F)) (hd : 84 ≤ d) (hs : pa_endedBy F nR nN nT φ x1 x2 = some r) : qm_Rn d 182 0 [.ref 10, .int x1, .int x2] [] (cw nR nN nT X ρ φ) (some (.int r.1), cw nR nN nT X ρ r.2) := by
  obtain ⟨d, rfl⟩ : ∃ e, d = e + 1 := ⟨d - 1, by omega⟩
  have hC := qC_182
  unfold pa_endedBy at hs
  refine qr_s hC (n := 3) (pc' := 3) (ls' := [.ref 10, .int x1, .int x2]) (st' := [.int 0, .int 0, .ref 10]) (h' := cw nR nN nT X ρ φ) rfl ?_
  obtain ⟨y1, φ1, hy, hs⟩ := qb2_s hs
  refine qr_c (j := 189) (as := [.ref 10, .int 0, .int 0]) (rest := []) (v := some (.int y1)) (h1 := cw nR nN nT X ρ φ1) hC rfl rfl qC_189 rfl rfl (cg_E_n F nR nN nT X ρ 80 0 φ 0 0 _ d (by omega) hy) ?_
  show qm_Rn (d + 1) 182 6 [.ref 10, .int x1, .int x2] [.int y1] (cw nR nN nT X ρ φ1) _
  refine qr_eq1 (tgt := 18) hC rfl (by decide) rfl (fun hc => ?_) (fun hc => ?_)
  · rw [if_pos hc] at hs
    refine qr_s hC (n := 1) (pc' := 19) (ls' := [.ref 10, .int x1, .int x2]) (st' := [.int 0]) (h' := cw nR nN nT X ρ φ1) rfl ?_
    have hs := Option.some.inj hs
    subst hs
    exact qr_r hC rfl rfl
  · rw [if_neg hc] at hs
    refine qr_s hC (n := 2) (pc' := 12) (ls' := [.ref 10, .int x1, .int x2]) (st' := [.int 59, .ref 10]) (h' := cw nR nN nT X ρ φ1) rfl ?_
    obtain ⟨y2, φ2, hy, hs⟩ := qb2_s hs
    refine qr_c (j := 171) (as := [.ref 10, .int 59]) (rest := []) (v := some (.int y2)) (h1 := cw nR nN nT X ρ φ2) hC rfl rfl qC_171 rfl rfl (pa_take_n F d nR nN nT X ρ φ1 59 _ (by omega) hy) ?_
    show qm_Rn (d + 1) 182 15 [.ref 10, .int x1, .int x2] [.int y2] (cw nR nN nT X ρ φ2) _
    refine qr_ne1 (tgt := 20) hC rfl (by decide) rfl (fun hc => ?_) (fun hc => ?_)
    · rw [if_pos hc] at hs
      refine qr_s hC (n := 5) (pc' := 27) (ls' := [.ref 10, .int x1, .int x2]) (st' := [.int 0, .int x2, .int x1, .ref 14]) (h' := cw nR nN nT X ρ φ2) rfl ?_
      obtain ⟨y3, φ3, hy, hs⟩ := qb2_s hs
      refine qr_c (j := 197) (as := [.ref 14, .int x1, .int x2, .int 0]) (rest := []) (v := some (.int y3)) (h1 := cw nR nN nT X ρ φ3) hC rfl rfl qC_197 rfl rfl (pr_emit_n F d nR nN nT X ρ φ2 x1 x2 0 _ (by omega) hy) ?_
      show qm_Rn (d + 1) 182 30 [.ref 10, .int x1, .int x2] [.int y3] (cw nR nN nT X ρ φ3) _
      refine qr_s hC (n := 2) (pc' := 32) (ls' := [.ref 10, .int x1, .int x2]) (st' := [.int 1]) (h' := cw nR nN nT X ρ φ3) rfl ?_
      have hs := Option.some.inj hs
      subst hs
      exact qr_r hC rfl rfl
    · rw [if_neg hc] at hs
      refine qr_s hC (n := 1) (pc' := 19) (ls' := [.ref 10, .int x1, .int x2]) (st' := [.int 0]) (h' := cw nR nN nT X ρ φ2) rfl ?_
      have hs := Option.some.inj hs
      subst hs
      exact qr_r hC rfl rfl
/-- SketchFiller$Program.aim(II)V -/
def pr_aim (F : Nat) (nR nN nT : Nat) (φ : qm_F) (x1 : Int32) (x2 : Int32) : Option qm_F :=
  if x1 < 0 then
    some φ
  else
    if (φ 14 13) ≤ x1 then
      some φ
    else
      qg (qm_in x1 nT) <|
      some (qm_u φ 22 x1.toNatClampNeg x2)
set_option maxRecDepth 100000 in
theorem pr_aim_n (F d : Nat) (nR nN nT : Nat) (X : List (Nat × Nat)) (ρ : Nat → Nat → Option Nat) (φ : qm_F) (x1 : Int32) (x2 : Int32) (r : qm_F) (hd : 0 ≤ d) (hs : pr_aim F nR nN nT φ x1 x2 = some r) : qm_Rn d 198 0 [.ref 14, .int x1, .int x2] [] (cw nR nN nT X ρ φ) (none, cw nR nN nT X ρ r) := by
  have hC := qC_198
  unfold pr_aim at hs
  refine qr_s hC (n := 1) (pc' := 1) (ls' := [.ref 14, .int x1, .int x2]) (st' := [.int x1]) (h' := cw nR nN nT X ρ φ) rfl ?_
  refine qr_lt1 (tgt := 19) hC rfl (by decide) rfl (fun hc => ?_) (fun hc => ?_)
  · rw [if_pos hc] at hs
    have hs := Option.some.inj hs
    subst hs
    exact qr_r hC rfl rfl
  · rw [if_neg hc] at hs
    refine qr_s hC (n := 3) (pc' := 9) (ls' := [.ref 14, .int x1, .int x2]) (st' := [.int (φ 14 13), .int x1]) (h' := cw nR nN nT X ρ φ) rfl ?_
    refine qr_ge2 (tgt := 19) hC rfl (by decide) rfl (fun hc => ?_) (fun hc => ?_)
    · rw [if_pos hc] at hs
      have hs := Option.some.inj hs
      subst hs
      exact qr_r hC rfl rfl
    · rw [if_neg hc] at hs
      refine qr_s hC (n := 4) (pc' := 18) (ls' := [.ref 14, .int x1, .int x2]) (st' := [.int x2, .int x1, .ref 22]) (h' := cw nR nN nT X ρ φ) rfl ?_
      obtain ⟨hq, hs⟩ := qg_s hs
      refine qr_is (h' := cw nR nN nT X ρ (qm_u φ 22 x1.toNatClampNeg x2)) hC rfl rfl hq rfl ?_
      have hs := Option.some.inj hs
      subst hs
      exact qr_r hC rfl rfl
/-- SketchFiller$Program.size()I -/
def pr_size (F : Nat) (nR nN nT : Nat) (φ : qm_F) : Option Int32 :=
  some (φ 14 13)
set_option maxRecDepth 100000 in
theorem pr_size_n (F d : Nat) (nR nN nT : Nat) (X : List (Nat × Nat)) (ρ : Nat → Nat → Option Nat) (φ : qm_F) (r : Int32) (hd : 0 ≤ d) (hs : pr_size F nR nN nT φ = some r) : qm_Rn d 199 0 [.ref 14] [] (cw nR nN nT X ρ φ) (some (.int r), cw nR nN nT X ρ φ) := by
  have hC := qC_199
  unfold pr_size at hs
  refine qr_s hC (n := 2) (pc' := 4) (ls' := [.ref 14]) (st' := [.int (φ 14 13)]) (h' := cw nR nN nT X ρ φ) rfl ?_
  have hs := Option.some.inj hs
  subst hs
  exact qr_r hC rfl rfl
def cg_S_ok (nR nN nT : Nat) (X : List (Nat × Nat)) (ρ : Nat → Nat → Option Nat) (d t : Nat) (φ : qm_F) (a b : Int32) (r : Int32 × qm_F) : Prop :=
  if t = 0 then qm_Rn d 179 0 [.ref 10, .int a, .int b, .retAddr 0] [] (cw nR nN nT X ρ φ) (some (.int r.1), cw nR nN nT X ρ r.2) else
  if t = 1 then qm_Rn d 181 0 [.ref 10, .int a, .int b, .retAddr 0, .retAddr 0] [] (cw nR nN nT X ρ φ) (some (.int r.1), cw nR nN nT X ρ r.2) else
  if t = 2 then qm_Rn d 183 0 [.ref 10, .int a, .int b] [] (cw nR nN nT X ρ φ) (some (.int r.1), cw nR nN nT X ρ r.2) else
  if t = 3 then qm_Rn d 184 0 [.ref 10, .int a, .int b, .retAddr 0, .retAddr 0] [] (cw nR nN nT X ρ φ) (some (.int r.1), cw nR nN nT X ρ r.2) else
  if t = 4 then qm_Rn d 185 0 [.ref 10, .int a, .int b, .retAddr 0] [] (cw nR nN nT X ρ φ) (some (.int r.1), cw nR nN nT X ρ r.2) else
  if t = 5 then qm_Rn d 186 0 [.ref 10, .int a, .int b, .retAddr 0, .retAddr 0] [] (cw nR nN nT X ρ φ) (some (.int r.1), cw nR nN nT X ρ r.2) else
  qm_Rn d 187 0 [.ref 10, .int a, .int b, .retAddr 0, .retAddr 0, .retAddr 0] [] (cw nR nN nT X ρ φ) (some (.int r.1), cw nR nN nT X ρ r.2)

/-- SketchFiller$Parser.block(II)Z -/
def pa_block_L2 (F : Nat) (nR nN nT : Nat) (g : Nat → qm_F → Int32 → Int32 → Option (Int32 × qm_F)) : Nat → qm_F → Int32 → Int32 → Int32 → Option (Int32 × qm_F)
  | 0, _, _, _, _ => none
  | n + 1, φ, x1, x2, x3 =>
    qb1 (to_count F nR nN φ) fun y1 =>
    if y1 ≤ x3 then
      some (1, φ)
    else
      qb1 (pa_beginsStatement F nR nN nT φ) fun y2 =>
      if y2 = 0 then
        some (1, φ)
      else
        qb2 (g 1 φ x1 x2) fun y3 φ1 =>
        if ¬ y3 = 0 then
          pa_block_L2 F nR nN nT g n φ1 x1 x2 (x3 + 1)
        else
          some (0, φ1)
def pa_block (F : Nat) (nR nN nT : Nat) (g : Nat → qm_F → Int32 → Int32 → Option (Int32 × qm_F)) (φ : qm_F) (x1 : Int32) (x2 : Int32) : Option (Int32 × qm_F) :=
  pa_block_L2 F nR nN nT g F φ x1 x2 0
set_option maxRecDepth 100000 in
theorem pa_block_L2_n (F d : Nat) (nR nN nT : Nat) (X : List (Nat × Nat)) (ρ : Nat → Nat → Option Nat) (g : Nat → qm_F → Int32 → Int32 → Option (Int32 × qm_F)) (hg : ∀ t φ a b r, g t φ a b = some r → cg_S_ok nR nN nT X ρ (d - 1) t φ a b r) (hd : 85 ≤ d) : ∀ (n : Nat) (φ : qm_F) (x1 : Int32) (x2 : Int32) (x3 : Int32) (r : (Int32 × qm_F)), pa_block_L2 F nR nN nT g n φ x1 x2 x3 = some r → qm_Rn d 179 2 [.ref 10, .int x1, .int x2, .int x3] [] (cw nR nN nT X ρ φ) (some (.int r.1), cw nR nN nT X ρ r.2) := by
  obtain ⟨d, rfl⟩ : ∃ e, d = e + 1 := ⟨d - 1, by omega⟩
  simp only [Nat.add_sub_cancel] at hg
  have hC := qC_179
  intro n
  induction n with
  | zero => intro φ x1 x2 x3 r hs; simp [pa_block_L2] at hs
  | succ n ih =>
    intro φ x1 x2 x3 r hs
    rw [pa_block_L2] at hs
    refine qr_s hC (n := 3) (pc' := 7) (ls' := [.ref 10, .int x1, .int x2, .int x3]) (st' := [.ref 4, .int x3]) (h' := cw nR nN nT X ρ φ) rfl ?_
    obtain ⟨y1, hy, hs⟩ := qb1_s hs
    refine qr_c (j := 264) (as := [.ref 4]) (rest := [.int x3]) (v := some (.int y1)) (h1 := cw nR nN nT X ρ φ) hC rfl rfl qC_264 rfl rfl (to_count_n F d nR nN (cw_X nT X) (cw_R ρ) φ _ (by omega) hy) ?_
    show qm_Rn (d + 1) 179 10 [.ref 10, .int x1, .int x2, .int x3] [.int y1, .int x3] (cw nR nN nT X ρ φ) _
    refine qr_ge2 (tgt := 37) hC rfl (by decide) rfl (fun hc => ?_) (fun hc => ?_)
    · rw [if_pos hc] at hs
      refine qr_s hC (n := 1) (pc' := 38) (ls' := [.ref 10, .int x1, .int x2, .int x3]) (st' := [.int 1]) (h' := cw nR nN nT X ρ φ) rfl ?_
      have hs := Option.some.inj hs
      subst hs
      exact qr_r hC rfl rfl
    · rw [if_neg hc] at hs
      refine qr_s hC (n := 1) (pc' := 14) (ls' := [.ref 10, .int x1, .int x2, .int x3]) (st' := [.ref 10]) (h' := cw nR nN nT X ρ φ) rfl ?_
      obtain ⟨y2, hy, hs⟩ := qb1_s hs
      refine qr_c (j := 180) (as := [.ref 10]) (rest := []) (v := some (.int y2)) (h1 := cw nR nN nT X ρ φ) hC rfl rfl qC_180 rfl rfl (pa_beginsStatement_n F d nR nN nT X ρ φ _ (by omega) hy) ?_
      show qm_Rn (d + 1) 179 17 [.ref 10, .int x1, .int x2, .int x3] [.int y2] (cw nR nN nT X ρ φ) _
      refine qr_eq1 (tgt := 37) hC rfl (by decide) rfl (fun hc => ?_) (fun hc => ?_)
      · rw [if_pos hc] at hs
        refine qr_s hC (n := 1) (pc' := 38) (ls' := [.ref 10, .int x1, .int x2, .int x3]) (st' := [.int 1]) (h' := cw nR nN nT X ρ φ) rfl ?_
        have hs := Option.some.inj hs
        subst hs
        exact qr_r hC rfl rfl
      · rw [if_neg hc] at hs
        refine qr_s hC (n := 3) (pc' := 23) (ls' := [.ref 10, .int x1, .int x2, .int x3]) (st' := [.int x2, .int x1, .ref 10]) (h' := cw nR nN nT X ρ φ) rfl ?_
        obtain ⟨y3, φ1, hy, hs⟩ := qb2_s hs
        refine qr_c (j := 181) (as := [.ref 10, .int x1, .int x2]) (rest := []) (v := some (.int y3)) (h1 := cw nR nN nT X ρ φ1) hC rfl rfl qC_181 rfl rfl (hg 1 φ x1 x2 _ hy) ?_
        show qm_Rn (d + 1) 179 26 [.ref 10, .int x1, .int x2, .int x3] [.int y3] (cw nR nN nT X ρ φ1) _
        refine qr_ne1 (tgt := 31) hC rfl (by decide) rfl (fun hc => ?_) (fun hc => ?_)
        · rw [if_pos hc] at hs
          refine qr_s hC (n := 2) (pc' := 2) (ls' := [.ref 10, .int x1, .int x2, .int (x3 + 1)]) (st' := []) (h' := cw nR nN nT X ρ φ1) rfl ?_
          exact ih φ1 x1 x2 (x3 + 1) _ hs
        · rw [if_neg hc] at hs
          refine qr_s hC (n := 1) (pc' := 30) (ls' := [.ref 10, .int x1, .int x2, .int x3]) (st' := [.int 0]) (h' := cw nR nN nT X ρ φ1) rfl ?_
          have hs := Option.some.inj hs
          subst hs
          exact qr_r hC rfl rfl
set_option maxRecDepth 100000 in
theorem pa_block_n (F d : Nat) (nR nN nT : Nat) (X : List (Nat × Nat)) (ρ : Nat → Nat → Option Nat) (g : Nat → qm_F → Int32 → Int32 → Option (Int32 × qm_F)) (hg : ∀ t φ a b r, g t φ a b = some r → cg_S_ok nR nN nT X ρ (d - 1) t φ a b r) (hd : 85 ≤ d) (φ : qm_F) (x1 : Int32) (x2 : Int32) (r : (Int32 × qm_F)) (hs : pa_block F nR nN nT g φ x1 x2 = some r) : qm_Rn d 179 0 [.ref 10, .int x1, .int x2, .retAddr 0] [] (cw nR nN nT X ρ φ) (some (.int r.1), cw nR nN nT X ρ r.2) := by
  obtain ⟨d, rfl⟩ : ∃ e, d = e + 1 := ⟨d - 1, by omega⟩
  simp only [Nat.add_sub_cancel] at hg
  have hC := qC_179
  unfold pa_block at hs
  refine qr_s hC (n := 2) (pc' := 2) (ls' := [.ref 10, .int x1, .int x2, .int 0]) (st' := []) (h' := cw nR nN nT X ρ φ) rfl ?_
  exact pa_block_L2_n F (d + 1) nR nN nT X ρ g hg (by omega) F φ x1 x2 0 _ hs

/-- SketchFiller$Parser.statement(II)Z -/
def pa_statement_L84 (F : Nat) (nR nN nT : Nat) (g : Nat → qm_F → Int32 → Int32 → Option (Int32 × qm_F)) (φ : qm_F) (x1 : Int32) (x2 : Int32) (x3 : Int32) : Option (Int32 × qm_F) :=
  qb2 (pr_emit F nR nN nT (qm_u φ 14 4 ((φ 14 4) + 1)) 6 0 0) fun y1 φ1 =>
  qb1 (pa_kind F nR nN nT φ1) fun y2 =>
  if y2 = 97 then
    qb2 (pa_take F nR nN nT (qm_u φ1 10 3 ((φ1 10 3) + 1)) 61) fun y3 φ2 =>
    if y3 = 0 then
      some (0, φ2)
    else
      qb2 (pa_endedBy F nR nN nT φ2 3 x3) fun y4 φ3 =>
      if y4 = 0 then
        some (0, φ3)
      else
        some (1, φ3)
  else
  if y2 = 133 then
    qb2 (pa_endedBy F nR nN nT (qm_u φ1 10 3 ((φ1 10 3) + 1)) 13 0) fun y5 φ4 =>
    qg (qm_bz y5) (some (y5, φ4))
  else
  if y2 = 134 then
    qb2 (g 3 (qm_u φ1 10 3 ((φ1 10 3) + 1)) x1 x2) fun y6 φ5 =>
    qg (qm_bz y6) (some (y6, φ5))
  else
  if y2 = 136 then
    qb2 (g 4 (qm_u φ1 10 3 ((φ1 10 3) + 1)) x1 x2) fun y7 φ6 =>
    qg (qm_bz y7) (some (y7, φ6))
  else
  if y2 = 137 then
    qb2 (g 5 (qm_u φ1 10 3 ((φ1 10 3) + 1)) x1 x2) fun y8 φ7 =>
    qg (qm_bz y8) (some (y8, φ7))
  else
  qb2 (g 6 (qm_u φ1 10 3 ((φ1 10 3) + 1)) x1 x2) fun y9 φ8 =>
  qg (qm_bz y9) (some (y9, φ8))
def pa_statement_L32 (F : Nat) (nR nN nT : Nat) (g : Nat → qm_F → Int32 → Int32 → Option (Int32 × qm_F)) (φ : qm_F) (x1 : Int32) (x2 : Int32) (s0 : Int32) : Option (Int32 × qm_F) :=
  if 8 ≤ s0 then
    if (φ 14 4) < 24 then
      qb1 (pa_kind F nR nN nT φ) fun y1 =>
      if ¬ y1 = 139 then
        pa_statement_L84 F nR nN nT g φ x1 x2 s0
      else
        if x2 < 3 then
          pa_statement_L84 F nR nN nT g φ x1 x2 s0
        else
          qb2 (pa_fail F nR nN nT φ 5) fun y2 φ1 =>
          qg (qm_bz y2) (some (y2, φ1))
    else
      qb2 (pa_fail F nR nN nT φ 5) fun y3 φ2 =>
      qg (qm_bz y3) (some (y3, φ2))
  else
    qb2 (pa_fail F nR nN nT φ 2) fun y4 φ3 =>
    qg (qm_bz y4) (some (y4, φ3))
def pa_statement (F : Nat) (nR nN nT : Nat) (g : Nat → qm_F → Int32 → Int32 → Option (Int32 × qm_F)) (φ : qm_F) (x1 : Int32) (x2 : Int32) : Option (Int32 × qm_F) :=
  qb1 (pa_kind F nR nN nT φ) fun y1 =>
  if ¬ y1 = 97 then
    pa_statement_L32 F nR nN nT g φ x1 x2 8
  else
    qb1 (to_numberOf F nR nN φ (φ 10 3)) fun y2 =>
    qb1 (na_slotOf F nR nN nT φ y2) fun y3 =>
    pa_statement_L32 F nR nN nT g φ x1 x2 y3
set_option maxRecDepth 100000 in
theorem pa_statement_L84_n (F d : Nat) (nR nN nT : Nat) (X : List (Nat × Nat)) (ρ : Nat → Nat → Option Nat) (g : Nat → qm_F → Int32 → Int32 → Option (Int32 × qm_F)) (hg : ∀ t φ a b r, g t φ a b = some r → cg_S_ok nR nN nT X ρ (d - 1) t φ a b r) (hd : 85 ≤ d) (φ : qm_F) (x1 : Int32) (x2 : Int32) (x3 : Int32) (r : (Int32 × qm_F)) (hs : pa_statement_L84 F nR nN nT g φ x1 x2 x3 = some r) : qm_Rn d 181 84 [.ref 10, .int x1, .int x2, .int x3, .retAddr 0] [] (cw nR nN nT X ρ φ) (some (.int r.1), cw nR nN nT X ρ r.2) := by
  obtain ⟨d, rfl⟩ : ∃ e, d = e + 1 := ⟨d - 1, by omega⟩
  simp only [Nat.add_sub_cancel] at hg
  have hC := qC_181
  unfold pa_statement_L84 at hs
  refine qr_s hC (n := 12) (pc' := 105) (ls' := [.ref 10, .int x1, .int x2, .int x3, .retAddr 0]) (st' := [.int 0, .int 0, .int 6, .ref 14]) (h' := cw nR nN nT X ρ (qm_u φ 14 4 ((φ 14 4) + 1))) rfl ?_
  obtain ⟨y1, φ1, hy, hs⟩ := qb2_s hs
  refine qr_c (j := 197) (as := [.ref 14, .int 6, .int 0, .int 0]) (rest := []) (v := some (.int y1)) (h1 := cw nR nN nT X ρ φ1) hC rfl rfl qC_197 rfl rfl (pr_emit_n F d nR nN nT X ρ (qm_u φ 14 4 ((φ 14 4) + 1)) 6 0 0 _ (by omega) hy) ?_
  show qm_Rn (d + 1) 181 108 [.ref 10, .int x1, .int x2, .int x3, .retAddr 0] [.int y1] (cw nR nN nT X ρ φ1) _
  refine qr_s hC (n := 2) (pc' := 110) (ls' := [.ref 10, .int x1, .int x2, .int x3, .retAddr 0]) (st' := [.ref 10]) (h' := cw nR nN nT X ρ φ1) rfl ?_
  obtain ⟨y2, hy, hs⟩ := qb1_s hs
  refine qr_c (j := 169) (as := [.ref 10]) (rest := []) (v := some (.int y2)) (h1 := cw nR nN nT X ρ φ1) hC rfl rfl qC_169 rfl rfl (pa_kind_n F d nR nN nT X ρ φ1 _ (by omega) hy) ?_
  show qm_Rn (d + 1) 181 113 [.ref 10, .int x1, .int x2, .int x3, .retAddr 0] [.int y2] (cw nR nN nT X ρ φ1) _
  refine qr_s hC (n := 8) (pc' := 127) (ls' := [.ref 10, .int x1, .int x2, .int x3, .int y2]) (st' := [.int y2]) (h' := cw nR nN nT X ρ (qm_u φ1 10 3 ((φ1 10 3) + 1))) rfl ?_
  by_cases q0 : y2 = 97
  · rw [if_pos q0] at hs
    refine qr_sw hC (tgt := 176) rfl q0 rfl ?_
    refine qr_s hC (n := 2) (pc' := 179) (ls' := [.ref 10, .int x1, .int x2, .int x3, .int y2]) (st' := [.int 61, .ref 10]) (h' := cw nR nN nT X ρ (qm_u φ1 10 3 ((φ1 10 3) + 1))) rfl ?_
    obtain ⟨y3, φ2, hy, hs⟩ := qb2_s hs
    refine qr_c (j := 171) (as := [.ref 10, .int 61]) (rest := []) (v := some (.int y3)) (h1 := cw nR nN nT X ρ φ2) hC rfl rfl qC_171 rfl rfl (pa_take_n F d nR nN nT X ρ (qm_u φ1 10 3 ((φ1 10 3) + 1)) 61 _ (by omega) hy) ?_
    show qm_Rn (d + 1) 181 182 [.ref 10, .int x1, .int x2, .int x3, .int y2] [.int y3] (cw nR nN nT X ρ φ2) _
    refine qr_eq1 (tgt := 198) hC rfl (by decide) rfl (fun hc => ?_) (fun hc => ?_)
    · rw [if_pos hc] at hs
      refine qr_s hC (n := 1) (pc' := 199) (ls' := [.ref 10, .int x1, .int x2, .int x3, .int y2]) (st' := [.int 0]) (h' := cw nR nN nT X ρ φ2) rfl ?_
      have hs := Option.some.inj hs
      subst hs
      exact qr_r hC rfl rfl
    · rw [if_neg hc] at hs
      refine qr_s hC (n := 3) (pc' := 188) (ls' := [.ref 10, .int x1, .int x2, .int x3, .int y2]) (st' := [.int x3, .int 3, .ref 10]) (h' := cw nR nN nT X ρ φ2) rfl ?_
      obtain ⟨y4, φ3, hy, hs⟩ := qb2_s hs
      refine qr_c (j := 182) (as := [.ref 10, .int 3, .int x3]) (rest := []) (v := some (.int y4)) (h1 := cw nR nN nT X ρ φ3) hC rfl rfl qC_182 rfl rfl (pa_endedBy_n F d nR nN nT X ρ φ2 3 x3 _ (by omega) hy) ?_
      show qm_Rn (d + 1) 181 191 [.ref 10, .int x1, .int x2, .int x3, .int y2] [.int y4] (cw nR nN nT X ρ φ3) _
      refine qr_eq1 (tgt := 198) hC rfl (by decide) rfl (fun hc => ?_) (fun hc => ?_)
      · rw [if_pos hc] at hs
        refine qr_s hC (n := 1) (pc' := 199) (ls' := [.ref 10, .int x1, .int x2, .int x3, .int y2]) (st' := [.int 0]) (h' := cw nR nN nT X ρ φ3) rfl ?_
        have hs := Option.some.inj hs
        subst hs
        exact qr_r hC rfl rfl
      · rw [if_neg hc] at hs
        refine qr_s hC (n := 2) (pc' := 199) (ls' := [.ref 10, .int x1, .int x2, .int x3, .int y2]) (st' := [.int 1]) (h' := cw nR nN nT X ρ φ3) rfl ?_
        have hs := Option.some.inj hs
        subst hs
        exact qr_r hC rfl rfl
  · rw [if_neg q0] at hs
    by_cases q1 : y2 = 133
    · rw [if_pos q1] at hs
      refine qr_sw hC (tgt := 200) rfl q1 rfl ?_
      refine qr_s hC (n := 3) (pc' := 204) (ls' := [.ref 10, .int x1, .int x2, .int x3, .int y2]) (st' := [.int 0, .int 13, .ref 10]) (h' := cw nR nN nT X ρ (qm_u φ1 10 3 ((φ1 10 3) + 1))) rfl ?_
      obtain ⟨y5, φ4, hy, hs⟩ := qb2_s hs
      refine qr_c (j := 182) (as := [.ref 10, .int 13, .int 0]) (rest := []) (v := some (.int y5)) (h1 := cw nR nN nT X ρ φ4) hC rfl rfl qC_182 rfl rfl (pa_endedBy_n F d nR nN nT X ρ (qm_u φ1 10 3 ((φ1 10 3) + 1)) 13 0 _ (by omega) hy) ?_
      show qm_Rn (d + 1) 181 207 [.ref 10, .int x1, .int x2, .int x3, .int y2] [.int y5] (cw nR nN nT X ρ φ4) _
      obtain ⟨hz, hs⟩ := qg_s hs
      have hs := Option.some.inj hs
      subst hs
      exact qr_rz hC rfl hz
    · rw [if_neg q1] at hs
      by_cases q2 : y2 = 134
      · rw [if_pos q2] at hs
        refine qr_sw hC (tgt := 208) rfl q2 rfl ?_
        refine qr_s hC (n := 3) (pc' := 211) (ls' := [.ref 10, .int x1, .int x2, .int x3, .int y2]) (st' := [.int x2, .int x1, .ref 10]) (h' := cw nR nN nT X ρ (qm_u φ1 10 3 ((φ1 10 3) + 1))) rfl ?_
        obtain ⟨y6, φ5, hy, hs⟩ := qb2_s hs
        refine qr_c (j := 184) (as := [.ref 10, .int x1, .int x2]) (rest := []) (v := some (.int y6)) (h1 := cw nR nN nT X ρ φ5) hC rfl rfl qC_184 rfl rfl (hg 3 (qm_u φ1 10 3 ((φ1 10 3) + 1)) x1 x2 _ hy) ?_
        show qm_Rn (d + 1) 181 214 [.ref 10, .int x1, .int x2, .int x3, .int y2] [.int y6] (cw nR nN nT X ρ φ5) _
        obtain ⟨hz, hs⟩ := qg_s hs
        have hs := Option.some.inj hs
        subst hs
        exact qr_rz hC rfl hz
      · rw [if_neg q2] at hs
        by_cases q3 : y2 = 136
        · rw [if_pos q3] at hs
          refine qr_sw hC (tgt := 215) rfl q3 rfl ?_
          refine qr_s hC (n := 3) (pc' := 218) (ls' := [.ref 10, .int x1, .int x2, .int x3, .int y2]) (st' := [.int x2, .int x1, .ref 10]) (h' := cw nR nN nT X ρ (qm_u φ1 10 3 ((φ1 10 3) + 1))) rfl ?_
          obtain ⟨y7, φ6, hy, hs⟩ := qb2_s hs
          refine qr_c (j := 185) (as := [.ref 10, .int x1, .int x2]) (rest := []) (v := some (.int y7)) (h1 := cw nR nN nT X ρ φ6) hC rfl rfl qC_185 rfl rfl (hg 4 (qm_u φ1 10 3 ((φ1 10 3) + 1)) x1 x2 _ hy) ?_
          show qm_Rn (d + 1) 181 221 [.ref 10, .int x1, .int x2, .int x3, .int y2] [.int y7] (cw nR nN nT X ρ φ6) _
          obtain ⟨hz, hs⟩ := qg_s hs
          have hs := Option.some.inj hs
          subst hs
          exact qr_rz hC rfl hz
        · rw [if_neg q3] at hs
          by_cases q4 : y2 = 137
          · rw [if_pos q4] at hs
            refine qr_sw hC (tgt := 222) rfl q4 rfl ?_
            refine qr_s hC (n := 3) (pc' := 225) (ls' := [.ref 10, .int x1, .int x2, .int x3, .int y2]) (st' := [.int x2, .int x1, .ref 10]) (h' := cw nR nN nT X ρ (qm_u φ1 10 3 ((φ1 10 3) + 1))) rfl ?_
            obtain ⟨y8, φ7, hy, hs⟩ := qb2_s hs
            refine qr_c (j := 186) (as := [.ref 10, .int x1, .int x2]) (rest := []) (v := some (.int y8)) (h1 := cw nR nN nT X ρ φ7) hC rfl rfl qC_186 rfl rfl (hg 5 (qm_u φ1 10 3 ((φ1 10 3) + 1)) x1 x2 _ hy) ?_
            show qm_Rn (d + 1) 181 228 [.ref 10, .int x1, .int x2, .int x3, .int y2] [.int y8] (cw nR nN nT X ρ φ7) _
            obtain ⟨hz, hs⟩ := qg_s hs
            have hs := Option.some.inj hs
            subst hs
            exact qr_rz hC rfl hz
          · rw [if_neg q4] at hs
            have z0 : Int32.toInt y2 ≠ 97 := fun z => q0 (Int32.toInt_inj.mp (z.trans (by decide)))
            have z1 : Int32.toInt y2 ≠ 133 := fun z => q1 (Int32.toInt_inj.mp (z.trans (by decide)))
            have z2 : Int32.toInt y2 ≠ 134 := fun z => q2 (Int32.toInt_inj.mp (z.trans (by decide)))
            have z3 : Int32.toInt y2 ≠ 136 := fun z => q3 (Int32.toInt_inj.mp (z.trans (by decide)))
            have z4 : Int32.toInt y2 ≠ 137 := fun z => q4 (Int32.toInt_inj.mp (z.trans (by decide)))
            refine qr_lD (off := 102) (tgt := 229) hC rfl (by decide) ?_ (by decide) rfl ?_
            · simp only [Op.lookupswitch.offset]
              rw [if_neg (Ne.symm z0)]
              rw [if_neg (Ne.symm z1)]
              rw [if_neg (Ne.symm z2)]
              rw [if_neg (Ne.symm z3)]
              rw [if_neg (Ne.symm z4)]
            refine qr_s hC (n := 3) (pc' := 232) (ls' := [.ref 10, .int x1, .int x2, .int x3, .int y2]) (st' := [.int x2, .int x1, .ref 10]) (h' := cw nR nN nT X ρ (qm_u φ1 10 3 ((φ1 10 3) + 1))) rfl ?_
            obtain ⟨y9, φ8, hy, hs⟩ := qb2_s hs
            refine qr_c (j := 187) (as := [.ref 10, .int x1, .int x2]) (rest := []) (v := some (.int y9)) (h1 := cw nR nN nT X ρ φ8) hC rfl rfl qC_187 rfl rfl (hg 6 (qm_u φ1 10 3 ((φ1 10 3) + 1)) x1 x2 _ hy) ?_
            show qm_Rn (d + 1) 181 235 [.ref 10, .int x1, .int x2, .int x3, .int y2] [.int y9] (cw nR nN nT X ρ φ8) _
            obtain ⟨hz, hs⟩ := qg_s hs
            have hs := Option.some.inj hs
            subst hs
            exact qr_rz hC rfl hz
set_option maxRecDepth 100000 in
theorem pa_statement_L32_n (F d : Nat) (nR nN nT : Nat) (X : List (Nat × Nat)) (ρ : Nat → Nat → Option Nat) (g : Nat → qm_F → Int32 → Int32 → Option (Int32 × qm_F)) (hg : ∀ t φ a b r, g t φ a b = some r → cg_S_ok nR nN nT X ρ (d - 1) t φ a b r) (hd : 85 ≤ d) (φ : qm_F) (x1 : Int32) (x2 : Int32) (s0 : Int32) (r : (Int32 × qm_F)) (hs : pa_statement_L32 F nR nN nT g φ x1 x2 s0 = some r) : qm_Rn d 181 32 [.ref 10, .int x1, .int x2, .retAddr 0, .retAddr 0] [.int s0] (cw nR nN nT X ρ φ) (some (.int r.1), cw nR nN nT X ρ r.2) := by
  obtain ⟨d, rfl⟩ : ∃ e, d = e + 1 := ⟨d - 1, by omega⟩
  simp only [Nat.add_sub_cancel] at hg
  have hC := qC_181
  unfold pa_statement_L32 at hs
  refine qr_s hC (n := 3) (pc' := 36) (ls' := [.ref 10, .int x1, .int x2, .int s0, .retAddr 0]) (st' := [.int 8, .int s0]) (h' := cw nR nN nT X ρ φ) rfl ?_
  refine qr_ge2 (tgt := 45) hC rfl (by decide) rfl (fun hc => ?_) (fun hc => ?_)
  · rw [if_pos hc] at hs
    refine qr_s hC (n := 4) (pc' := 54) (ls' := [.ref 10, .int x1, .int x2, .int s0, .retAddr 0]) (st' := [.int 24, .int (φ 14 4)]) (h' := cw nR nN nT X ρ φ) rfl ?_
    refine qr_lt2 (tgt := 63) hC rfl (by decide) rfl (fun hc => ?_) (fun hc => ?_)
    · rw [if_pos hc] at hs
      refine qr_s hC (n := 1) (pc' := 64) (ls' := [.ref 10, .int x1, .int x2, .int s0, .retAddr 0]) (st' := [.ref 10]) (h' := cw nR nN nT X ρ φ) rfl ?_
      obtain ⟨y1, hy, hs⟩ := qb1_s hs
      refine qr_c (j := 169) (as := [.ref 10]) (rest := []) (v := some (.int y1)) (h1 := cw nR nN nT X ρ φ) hC rfl rfl qC_169 rfl rfl (pa_kind_n F d nR nN nT X ρ φ _ (by omega) hy) ?_
      show qm_Rn (d + 1) 181 67 [.ref 10, .int x1, .int x2, .int s0, .retAddr 0] [.int y1] (cw nR nN nT X ρ φ) _
      refine qr_s hC (n := 1) (pc' := 70) (ls' := [.ref 10, .int x1, .int x2, .int s0, .retAddr 0]) (st' := [.int 139, .int y1]) (h' := cw nR nN nT X ρ φ) rfl ?_
      refine qr_ne2 (tgt := 84) hC rfl (by decide) rfl (fun hc => ?_) (fun hc => ?_)
      · rw [if_pos hc] at hs
        exact pa_statement_L84_n F (d + 1) nR nN nT X ρ g hg (by omega) φ x1 x2 s0 _ hs
      · rw [if_neg hc] at hs
        refine qr_s hC (n := 2) (pc' := 75) (ls' := [.ref 10, .int x1, .int x2, .int s0, .retAddr 0]) (st' := [.int 3, .int x2]) (h' := cw nR nN nT X ρ φ) rfl ?_
        refine qr_lt2 (tgt := 84) hC rfl (by decide) rfl (fun hc => ?_) (fun hc => ?_)
        · rw [if_pos hc] at hs
          exact pa_statement_L84_n F (d + 1) nR nN nT X ρ g hg (by omega) φ x1 x2 s0 _ hs
        · rw [if_neg hc] at hs
          refine qr_s hC (n := 2) (pc' := 80) (ls' := [.ref 10, .int x1, .int x2, .int s0, .retAddr 0]) (st' := [.int 5, .ref 10]) (h' := cw nR nN nT X ρ φ) rfl ?_
          obtain ⟨y2, φ1, hy, hs⟩ := qb2_s hs
          refine qr_c (j := 170) (as := [.ref 10, .int 5]) (rest := []) (v := some (.int y2)) (h1 := cw nR nN nT X ρ φ1) hC rfl rfl qC_170 rfl rfl (pa_fail_n F d nR nN nT X ρ φ 5 _ (by omega) hy) ?_
          show qm_Rn (d + 1) 181 83 [.ref 10, .int x1, .int x2, .int s0, .retAddr 0] [.int y2] (cw nR nN nT X ρ φ1) _
          obtain ⟨hz, hs⟩ := qg_s hs
          have hs := Option.some.inj hs
          subst hs
          exact qr_rz hC rfl hz
    · rw [if_neg hc] at hs
      refine qr_s hC (n := 2) (pc' := 59) (ls' := [.ref 10, .int x1, .int x2, .int s0, .retAddr 0]) (st' := [.int 5, .ref 10]) (h' := cw nR nN nT X ρ φ) rfl ?_
      obtain ⟨y3, φ2, hy, hs⟩ := qb2_s hs
      refine qr_c (j := 170) (as := [.ref 10, .int 5]) (rest := []) (v := some (.int y3)) (h1 := cw nR nN nT X ρ φ2) hC rfl rfl qC_170 rfl rfl (pa_fail_n F d nR nN nT X ρ φ 5 _ (by omega) hy) ?_
      show qm_Rn (d + 1) 181 62 [.ref 10, .int x1, .int x2, .int s0, .retAddr 0] [.int y3] (cw nR nN nT X ρ φ2) _
      obtain ⟨hz, hs⟩ := qg_s hs
      have hs := Option.some.inj hs
      subst hs
      exact qr_rz hC rfl hz
  · rw [if_neg hc] at hs
    refine qr_s hC (n := 2) (pc' := 41) (ls' := [.ref 10, .int x1, .int x2, .int s0, .retAddr 0]) (st' := [.int 2, .ref 10]) (h' := cw nR nN nT X ρ φ) rfl ?_
    obtain ⟨y4, φ3, hy, hs⟩ := qb2_s hs
    refine qr_c (j := 170) (as := [.ref 10, .int 2]) (rest := []) (v := some (.int y4)) (h1 := cw nR nN nT X ρ φ3) hC rfl rfl qC_170 rfl rfl (pa_fail_n F d nR nN nT X ρ φ 2 _ (by omega) hy) ?_
    show qm_Rn (d + 1) 181 44 [.ref 10, .int x1, .int x2, .int s0, .retAddr 0] [.int y4] (cw nR nN nT X ρ φ3) _
    obtain ⟨hz, hs⟩ := qg_s hs
    have hs := Option.some.inj hs
    subst hs
    exact qr_rz hC rfl hz
set_option maxRecDepth 100000 in
theorem pa_statement_n (F d : Nat) (nR nN nT : Nat) (X : List (Nat × Nat)) (ρ : Nat → Nat → Option Nat) (g : Nat → qm_F → Int32 → Int32 → Option (Int32 × qm_F)) (hg : ∀ t φ a b r, g t φ a b = some r → cg_S_ok nR nN nT X ρ (d - 1) t φ a b r) (hd : 85 ≤ d) (φ : qm_F) (x1 : Int32) (x2 : Int32) (r : (Int32 × qm_F)) (hs : pa_statement F nR nN nT g φ x1 x2 = some r) : qm_Rn d 181 0 [.ref 10, .int x1, .int x2, .retAddr 0, .retAddr 0] [] (cw nR nN nT X ρ φ) (some (.int r.1), cw nR nN nT X ρ r.2) := by
  obtain ⟨d, rfl⟩ : ∃ e, d = e + 1 := ⟨d - 1, by omega⟩
  simp only [Nat.add_sub_cancel] at hg
  have hC := qC_181
  unfold pa_statement at hs
  refine qr_s hC (n := 1) (pc' := 1) (ls' := [.ref 10, .int x1, .int x2, .retAddr 0, .retAddr 0]) (st' := [.ref 10]) (h' := cw nR nN nT X ρ φ) rfl ?_
  obtain ⟨y1, hy, hs⟩ := qb1_s hs
  refine qr_c (j := 169) (as := [.ref 10]) (rest := []) (v := some (.int y1)) (h1 := cw nR nN nT X ρ φ) hC rfl rfl qC_169 rfl rfl (pa_kind_n F d nR nN nT X ρ φ _ (by omega) hy) ?_
  show qm_Rn (d + 1) 181 4 [.ref 10, .int x1, .int x2, .retAddr 0, .retAddr 0] [.int y1] (cw nR nN nT X ρ φ) _
  refine qr_s hC (n := 1) (pc' := 6) (ls' := [.ref 10, .int x1, .int x2, .retAddr 0, .retAddr 0]) (st' := [.int 97, .int y1]) (h' := cw nR nN nT X ρ φ) rfl ?_
  refine qr_ne2 (tgt := 30) hC rfl (by decide) rfl (fun hc => ?_) (fun hc => ?_)
  · rw [if_pos hc] at hs
    refine qr_s hC (n := 1) (pc' := 32) (ls' := [.ref 10, .int x1, .int x2, .retAddr 0, .retAddr 0]) (st' := [.int 8]) (h' := cw nR nN nT X ρ φ) rfl ?_
    exact pa_statement_L32_n F (d + 1) nR nN nT X ρ g hg (by omega) φ x1 x2 8 _ hs
  · rw [if_neg hc] at hs
    refine qr_s hC (n := 6) (pc' := 21) (ls' := [.ref 10, .int x1, .int x2, .retAddr 0, .retAddr 0]) (st' := [.int (φ 10 3), .ref 4, .ref 11]) (h' := cw nR nN nT X ρ φ) rfl ?_
    obtain ⟨y2, hy, hs⟩ := qb1_s hs
    refine qr_c (j := 267) (as := [.ref 4, .int (φ 10 3)]) (rest := [.ref 11]) (v := some (.int y2)) (h1 := cw nR nN nT X ρ φ) hC rfl rfl qC_267 rfl rfl (to_numberOf_n F d nR nN (cw_X nT X) (cw_R ρ) φ (φ 10 3) _ (by omega) hy) ?_
    show qm_Rn (d + 1) 181 24 [.ref 10, .int x1, .int x2, .retAddr 0, .retAddr 0] [.int y2, .ref 11] (cw nR nN nT X ρ φ) _
    obtain ⟨y3, hy, hs⟩ := qb1_s hs
    refine qr_c (j := 162) (as := [.ref 11, .int y2]) (rest := []) (v := some (.int y3)) (h1 := cw nR nN nT X ρ φ) hC rfl rfl qC_162 rfl rfl (na_slotOf_n F d nR nN nT X ρ φ y2 _ (by omega) hy) ?_
    show qm_Rn (d + 1) 181 27 [.ref 10, .int x1, .int x2, .retAddr 0, .retAddr 0] [.int y3] (cw nR nN nT X ρ φ) _
    refine qr_s hC (n := 1) (pc' := 32) (ls' := [.ref 10, .int x1, .int x2, .retAddr 0, .retAddr 0]) (st' := [.int y3]) (h' := cw nR nN nT X ρ φ) rfl ?_
    exact pa_statement_L32_n F (d + 1) nR nN nT X ρ g hg (by omega) φ x1 x2 y3 _ hs

/-- SketchFiller$Parser.braced(II)Z -/
def pa_braced (F : Nat) (nR nN nT : Nat) (g : Nat → qm_F → Int32 → Int32 → Option (Int32 × qm_F)) (φ : qm_F) (x1 : Int32) (x2 : Int32) : Option (Int32 × qm_F) :=
  qb1 (pa_kind F nR nN nT φ) fun y1 =>
  if y1 = 123 then
    if x1 < 4 then
      qb2 (g 0 (qm_u φ 10 3 ((φ 10 3) + 1)) (x1 + 1) x2) fun y2 φ1 =>
      if y2 = 0 then
        some (0, φ1)
      else
        qb2 (pa_take F nR nN nT φ1 125) fun y3 φ2 =>
        if y3 = 0 then
          some (0, φ2)
        else
          some (1, φ2)
    else
      qb2 (pa_fail F nR nN nT φ 5) fun y4 φ3 =>
      qg (qm_bz y4) (some (y4, φ3))
  else
    qb2 (pa_fail F nR nN nT φ 1) fun y5 φ4 =>
    qg (qm_bz y5) (some (y5, φ4))
set_option maxRecDepth 100000 in
theorem pa_braced_n (F d : Nat) (nR nN nT : Nat) (X : List (Nat × Nat)) (ρ : Nat → Nat → Option Nat) (g : Nat → qm_F → Int32 → Int32 → Option (Int32 × qm_F)) (hg : ∀ t φ a b r, g t φ a b = some r → cg_S_ok nR nN nT X ρ (d - 1) t φ a b r) (hd : 85 ≤ d) (φ : qm_F) (x1 : Int32) (x2 : Int32) (r : (Int32 × qm_F)) (hs : pa_braced F nR nN nT g φ x1 x2 = some r) : qm_Rn d 183 0 [.ref 10, .int x1, .int x2] [] (cw nR nN nT X ρ φ) (some (.int r.1), cw nR nN nT X ρ r.2) := by
  obtain ⟨d, rfl⟩ : ∃ e, d = e + 1 := ⟨d - 1, by omega⟩
  simp only [Nat.add_sub_cancel] at hg
  have hC := qC_183
  unfold pa_braced at hs
  refine qr_s hC (n := 1) (pc' := 1) (ls' := [.ref 10, .int x1, .int x2]) (st' := [.ref 10]) (h' := cw nR nN nT X ρ φ) rfl ?_
  obtain ⟨y1, hy, hs⟩ := qb1_s hs
  refine qr_c (j := 169) (as := [.ref 10]) (rest := []) (v := some (.int y1)) (h1 := cw nR nN nT X ρ φ) hC rfl rfl qC_169 rfl rfl (pa_kind_n F d nR nN nT X ρ φ _ (by omega) hy) ?_
  show qm_Rn (d + 1) 183 4 [.ref 10, .int x1, .int x2] [.int y1] (cw nR nN nT X ρ φ) _
  refine qr_s hC (n := 1) (pc' := 6) (ls' := [.ref 10, .int x1, .int x2]) (st' := [.int 123, .int y1]) (h' := cw nR nN nT X ρ φ) rfl ?_
  refine qr_eq2 (tgt := 15) hC rfl (by decide) rfl (fun hc => ?_) (fun hc => ?_)
  · rw [if_pos hc] at hs
    refine qr_s hC (n := 2) (pc' := 17) (ls' := [.ref 10, .int x1, .int x2]) (st' := [.int 4, .int x1]) (h' := cw nR nN nT X ρ φ) rfl ?_
    refine qr_lt2 (tgt := 26) hC rfl (by decide) rfl (fun hc => ?_) (fun hc => ?_)
    · rw [if_pos hc] at hs
      refine qr_s hC (n := 11) (pc' := 41) (ls' := [.ref 10, .int x1, .int x2]) (st' := [.int x2, .int (x1 + 1), .ref 10]) (h' := cw nR nN nT X ρ (qm_u φ 10 3 ((φ 10 3) + 1))) rfl ?_
      obtain ⟨y2, φ1, hy, hs⟩ := qb2_s hs
      refine qr_c (j := 179) (as := [.ref 10, .int (x1 + 1), .int x2]) (rest := []) (v := some (.int y2)) (h1 := cw nR nN nT X ρ φ1) hC rfl rfl qC_179 rfl rfl (hg 0 (qm_u φ 10 3 ((φ 10 3) + 1)) (x1 + 1) x2 _ hy) ?_
      show qm_Rn (d + 1) 183 44 [.ref 10, .int x1, .int x2] [.int y2] (cw nR nN nT X ρ φ1) _
      refine qr_eq1 (tgt := 60) hC rfl (by decide) rfl (fun hc => ?_) (fun hc => ?_)
      · rw [if_pos hc] at hs
        refine qr_s hC (n := 1) (pc' := 61) (ls' := [.ref 10, .int x1, .int x2]) (st' := [.int 0]) (h' := cw nR nN nT X ρ φ1) rfl ?_
        have hs := Option.some.inj hs
        subst hs
        exact qr_r hC rfl rfl
      · rw [if_neg hc] at hs
        refine qr_s hC (n := 2) (pc' := 50) (ls' := [.ref 10, .int x1, .int x2]) (st' := [.int 125, .ref 10]) (h' := cw nR nN nT X ρ φ1) rfl ?_
        obtain ⟨y3, φ2, hy, hs⟩ := qb2_s hs
        refine qr_c (j := 171) (as := [.ref 10, .int 125]) (rest := []) (v := some (.int y3)) (h1 := cw nR nN nT X ρ φ2) hC rfl rfl qC_171 rfl rfl (pa_take_n F d nR nN nT X ρ φ1 125 _ (by omega) hy) ?_
        show qm_Rn (d + 1) 183 53 [.ref 10, .int x1, .int x2] [.int y3] (cw nR nN nT X ρ φ2) _
        refine qr_eq1 (tgt := 60) hC rfl (by decide) rfl (fun hc => ?_) (fun hc => ?_)
        · rw [if_pos hc] at hs
          refine qr_s hC (n := 1) (pc' := 61) (ls' := [.ref 10, .int x1, .int x2]) (st' := [.int 0]) (h' := cw nR nN nT X ρ φ2) rfl ?_
          have hs := Option.some.inj hs
          subst hs
          exact qr_r hC rfl rfl
        · rw [if_neg hc] at hs
          refine qr_s hC (n := 2) (pc' := 61) (ls' := [.ref 10, .int x1, .int x2]) (st' := [.int 1]) (h' := cw nR nN nT X ρ φ2) rfl ?_
          have hs := Option.some.inj hs
          subst hs
          exact qr_r hC rfl rfl
    · rw [if_neg hc] at hs
      refine qr_s hC (n := 2) (pc' := 22) (ls' := [.ref 10, .int x1, .int x2]) (st' := [.int 5, .ref 10]) (h' := cw nR nN nT X ρ φ) rfl ?_
      obtain ⟨y4, φ3, hy, hs⟩ := qb2_s hs
      refine qr_c (j := 170) (as := [.ref 10, .int 5]) (rest := []) (v := some (.int y4)) (h1 := cw nR nN nT X ρ φ3) hC rfl rfl qC_170 rfl rfl (pa_fail_n F d nR nN nT X ρ φ 5 _ (by omega) hy) ?_
      show qm_Rn (d + 1) 183 25 [.ref 10, .int x1, .int x2] [.int y4] (cw nR nN nT X ρ φ3) _
      obtain ⟨hz, hs⟩ := qg_s hs
      have hs := Option.some.inj hs
      subst hs
      exact qr_rz hC rfl hz
  · rw [if_neg hc] at hs
    refine qr_s hC (n := 2) (pc' := 11) (ls' := [.ref 10, .int x1, .int x2]) (st' := [.int 1, .ref 10]) (h' := cw nR nN nT X ρ φ) rfl ?_
    obtain ⟨y5, φ4, hy, hs⟩ := qb2_s hs
    refine qr_c (j := 170) (as := [.ref 10, .int 1]) (rest := []) (v := some (.int y5)) (h1 := cw nR nN nT X ρ φ4) hC rfl rfl qC_170 rfl rfl (pa_fail_n F d nR nN nT X ρ φ 1 _ (by omega) hy) ?_
    show qm_Rn (d + 1) 183 14 [.ref 10, .int x1, .int x2] [.int y5] (cw nR nN nT X ρ φ4) _
    obtain ⟨hz, hs⟩ := qg_s hs
    have hs := Option.some.inj hs
    subst hs
    exact qr_rz hC rfl hz

/-- SketchFiller$Parser.ifStatement(II)Z -/
def pa_ifStatement_L96 (F : Nat) (nR nN nT : Nat) (g : Nat → qm_F → Int32 → Int32 → Option (Int32 × qm_F)) (φ : qm_F) (x3 : Int32) : Option (Int32 × qm_F) :=
  qb1 (pr_size F nR nN nT φ) fun y1 =>
  qb1 (pr_aim F nR nN nT φ x3 y1) fun φ1 =>
  some (1, φ1)
def pa_ifStatement (F : Nat) (nR nN nT : Nat) (g : Nat → qm_F → Int32 → Int32 → Option (Int32 × qm_F)) (φ : qm_F) (x1 : Int32) (x2 : Int32) : Option (Int32 × qm_F) :=
  qb2 (cg_E F nR nN nT 80 0 φ 0 0) fun y1 φ1 =>
  if ¬ y1 = 0 then
    qb2 (pr_emit F nR nN nT φ1 8 0 0) fun y2 φ2 =>
    qb2 (g 2 φ2 x1 x2) fun y3 φ3 =>
    if ¬ y3 = 0 then
      qb1 (pa_kind F nR nN nT φ3) fun y4 =>
      if ¬ y4 = 135 then
        pa_ifStatement_L96 F nR nN nT g φ3 y2
      else
        qb2 (pr_emit F nR nN nT (qm_u φ3 10 3 ((φ3 10 3) + 1)) 7 0 0) fun y5 φ4 =>
        qb1 (pr_size F nR nN nT φ4) fun y6 =>
        qb1 (pr_aim F nR nN nT φ4 y2 y6) fun φ5 =>
        qb2 (g 2 φ5 x1 x2) fun y7 φ6 =>
        if ¬ y7 = 0 then
          pa_ifStatement_L96 F nR nN nT g φ6 y5
        else
          some (0, φ6)
    else
      some (0, φ3)
  else
    some (0, φ1)
set_option maxRecDepth 100000 in
theorem pa_ifStatement_L96_n (F d : Nat) (nR nN nT : Nat) (X : List (Nat × Nat)) (ρ : Nat → Nat → Option Nat) (g : Nat → qm_F → Int32 → Int32 → Option (Int32 × qm_F)) (hg : ∀ t φ a b r, g t φ a b = some r → cg_S_ok nR nN nT X ρ (d - 1) t φ a b r) (hd : 85 ≤ d) (φ : qm_F) (x3 : Int32) (r : (Int32 × qm_F)) (hs : pa_ifStatement_L96 F nR nN nT g φ x3 = some r) : qm_Rn d 184 96 [.ref 10, .retAddr 0, .retAddr 0, .int x3, .retAddr 0] [] (cw nR nN nT X ρ φ) (some (.int r.1), cw nR nN nT X ρ r.2) := by
  obtain ⟨d, rfl⟩ : ∃ e, d = e + 1 := ⟨d - 1, by omega⟩
  simp only [Nat.add_sub_cancel] at hg
  have hC := qC_184
  unfold pa_ifStatement_L96 at hs
  refine qr_s hC (n := 5) (pc' := 105) (ls' := [.ref 10, .retAddr 0, .retAddr 0, .int x3, .retAddr 0]) (st' := [.ref 14, .int x3, .ref 14]) (h' := cw nR nN nT X ρ φ) rfl ?_
  obtain ⟨y1, hy, hs⟩ := qb1_s hs
  refine qr_c (j := 199) (as := [.ref 14]) (rest := [.int x3, .ref 14]) (v := some (.int y1)) (h1 := cw nR nN nT X ρ φ) hC rfl rfl qC_199 rfl rfl (pr_size_n F d nR nN nT X ρ φ _ (by omega) hy) ?_
  show qm_Rn (d + 1) 184 108 [.ref 10, .retAddr 0, .retAddr 0, .int x3, .retAddr 0] [.int y1, .int x3, .ref 14] (cw nR nN nT X ρ φ) _
  obtain ⟨φ1, hy, hs⟩ := qb1_s hs
  refine qr_c (j := 198) (as := [.ref 14, .int x3, .int y1]) (rest := []) (v := none) (h1 := cw nR nN nT X ρ φ1) hC rfl rfl qC_198 rfl rfl (pr_aim_n F d nR nN nT X ρ φ x3 y1 _ (by omega) hy) ?_
  show qm_Rn (d + 1) 184 111 [.ref 10, .retAddr 0, .retAddr 0, .int x3, .retAddr 0] [] (cw nR nN nT X ρ φ1) _
  refine qr_s hC (n := 1) (pc' := 112) (ls' := [.ref 10, .retAddr 0, .retAddr 0, .int x3, .retAddr 0]) (st' := [.int 1]) (h' := cw nR nN nT X ρ φ1) rfl ?_
  have hs := Option.some.inj hs
  subst hs
  exact qr_r hC rfl rfl
set_option maxRecDepth 100000 in
theorem pa_ifStatement_n (F d : Nat) (nR nN nT : Nat) (X : List (Nat × Nat)) (ρ : Nat → Nat → Option Nat) (g : Nat → qm_F → Int32 → Int32 → Option (Int32 × qm_F)) (hg : ∀ t φ a b r, g t φ a b = some r → cg_S_ok nR nN nT X ρ (d - 1) t φ a b r) (hd : 85 ≤ d) (φ : qm_F) (x1 : Int32) (x2 : Int32) (r : (Int32 × qm_F)) (hs : pa_ifStatement F nR nN nT g φ x1 x2 = some r) : qm_Rn d 184 0 [.ref 10, .int x1, .int x2, .retAddr 0, .retAddr 0] [] (cw nR nN nT X ρ φ) (some (.int r.1), cw nR nN nT X ρ r.2) := by
  obtain ⟨d, rfl⟩ : ∃ e, d = e + 1 := ⟨d - 1, by omega⟩
  simp only [Nat.add_sub_cancel] at hg
  have hC := qC_184
  unfold pa_ifStatement at hs
  refine qr_s hC (n := 3) (pc' := 3) (ls' := [.ref 10, .int x1, .int x2, .retAddr 0, .retAddr 0]) (st' := [.int 0, .int 0, .ref 10]) (h' := cw nR nN nT X ρ φ) rfl ?_
  obtain ⟨y1, φ1, hy, hs⟩ := qb2_s hs
  refine qr_c (j := 189) (as := [.ref 10, .int 0, .int 0]) (rest := []) (v := some (.int y1)) (h1 := cw nR nN nT X ρ φ1) hC rfl rfl qC_189 rfl rfl (cg_E_n F nR nN nT X ρ 80 0 φ 0 0 _ d (by omega) hy) ?_
  show qm_Rn (d + 1) 184 6 [.ref 10, .int x1, .int x2, .retAddr 0, .retAddr 0] [.int y1] (cw nR nN nT X ρ φ1) _
  refine qr_ne1 (tgt := 11) hC rfl (by decide) rfl (fun hc => ?_) (fun hc => ?_)
  · rw [if_pos hc] at hs
    refine qr_s hC (n := 5) (pc' := 19) (ls' := [.ref 10, .int x1, .int x2, .retAddr 0, .retAddr 0]) (st' := [.int 0, .int 0, .int 8, .ref 14]) (h' := cw nR nN nT X ρ φ1) rfl ?_
    obtain ⟨y2, φ2, hy, hs⟩ := qb2_s hs
    refine qr_c (j := 197) (as := [.ref 14, .int 8, .int 0, .int 0]) (rest := []) (v := some (.int y2)) (h1 := cw nR nN nT X ρ φ2) hC rfl rfl qC_197 rfl rfl (pr_emit_n F d nR nN nT X ρ φ1 8 0 0 _ (by omega) hy) ?_
    show qm_Rn (d + 1) 184 22 [.ref 10, .int x1, .int x2, .retAddr 0, .retAddr 0] [.int y2] (cw nR nN nT X ρ φ2) _
    refine qr_s hC (n := 4) (pc' := 26) (ls' := [.ref 10, .int x1, .int x2, .int y2, .retAddr 0]) (st' := [.int x2, .int x1, .ref 10]) (h' := cw nR nN nT X ρ φ2) rfl ?_
    obtain ⟨y3, φ3, hy, hs⟩ := qb2_s hs
    refine qr_c (j := 183) (as := [.ref 10, .int x1, .int x2]) (rest := []) (v := some (.int y3)) (h1 := cw nR nN nT X ρ φ3) hC rfl rfl qC_183 rfl rfl (hg 2 φ2 x1 x2 _ hy) ?_
    show qm_Rn (d + 1) 184 29 [.ref 10, .int x1, .int x2, .int y2, .retAddr 0] [.int y3] (cw nR nN nT X ρ φ3) _
    refine qr_ne1 (tgt := 34) hC rfl (by decide) rfl (fun hc => ?_) (fun hc => ?_)
    · rw [if_pos hc] at hs
      refine qr_s hC (n := 1) (pc' := 35) (ls' := [.ref 10, .int x1, .int x2, .int y2, .retAddr 0]) (st' := [.ref 10]) (h' := cw nR nN nT X ρ φ3) rfl ?_
      obtain ⟨y4, hy, hs⟩ := qb1_s hs
      refine qr_c (j := 169) (as := [.ref 10]) (rest := []) (v := some (.int y4)) (h1 := cw nR nN nT X ρ φ3) hC rfl rfl qC_169 rfl rfl (pa_kind_n F d nR nN nT X ρ φ3 _ (by omega) hy) ?_
      show qm_Rn (d + 1) 184 38 [.ref 10, .int x1, .int x2, .int y2, .retAddr 0] [.int y4] (cw nR nN nT X ρ φ3) _
      refine qr_s hC (n := 1) (pc' := 41) (ls' := [.ref 10, .int x1, .int x2, .int y2, .retAddr 0]) (st' := [.int 135, .int y4]) (h' := cw nR nN nT X ρ φ3) rfl ?_
      refine qr_ne2 (tgt := 96) hC rfl (by decide) rfl (fun hc => ?_) (fun hc => ?_)
      · rw [if_pos hc] at hs
        exact qr_w (a := [.ref 10, .retAddr 0, .retAddr 0, .int y2, .retAddr 0]) ⟨Or.inr rfl, Or.inl rfl, Or.inl rfl, Or.inr rfl, Or.inr rfl, trivial⟩ (pa_ifStatement_L96_n F (d + 1) nR nN nT X ρ g hg (by omega) φ3 y2 _ hs)
      · rw [if_neg hc] at hs
        refine qr_s hC (n := 11) (pc' := 62) (ls' := [.ref 10, .int x1, .int x2, .int y2, .retAddr 0]) (st' := [.int 0, .int 0, .int 7, .ref 14]) (h' := cw nR nN nT X ρ (qm_u φ3 10 3 ((φ3 10 3) + 1))) rfl ?_
        obtain ⟨y5, φ4, hy, hs⟩ := qb2_s hs
        refine qr_c (j := 197) (as := [.ref 14, .int 7, .int 0, .int 0]) (rest := []) (v := some (.int y5)) (h1 := cw nR nN nT X ρ φ4) hC rfl rfl qC_197 rfl rfl (pr_emit_n F d nR nN nT X ρ (qm_u φ3 10 3 ((φ3 10 3) + 1)) 7 0 0 _ (by omega) hy) ?_
        show qm_Rn (d + 1) 184 65 [.ref 10, .int x1, .int x2, .int y2, .retAddr 0] [.int y5] (cw nR nN nT X ρ φ4) _
        refine qr_s hC (n := 6) (pc' := 76) (ls' := [.ref 10, .int x1, .int x2, .int y2, .int y5]) (st' := [.ref 14, .int y2, .ref 14]) (h' := cw nR nN nT X ρ φ4) rfl ?_
        obtain ⟨y6, hy, hs⟩ := qb1_s hs
        refine qr_c (j := 199) (as := [.ref 14]) (rest := [.int y2, .ref 14]) (v := some (.int y6)) (h1 := cw nR nN nT X ρ φ4) hC rfl rfl qC_199 rfl rfl (pr_size_n F d nR nN nT X ρ φ4 _ (by omega) hy) ?_
        show qm_Rn (d + 1) 184 79 [.ref 10, .int x1, .int x2, .int y2, .int y5] [.int y6, .int y2, .ref 14] (cw nR nN nT X ρ φ4) _
        obtain ⟨φ5, hy, hs⟩ := qb1_s hs
        refine qr_c (j := 198) (as := [.ref 14, .int y2, .int y6]) (rest := []) (v := none) (h1 := cw nR nN nT X ρ φ5) hC rfl rfl qC_198 rfl rfl (pr_aim_n F d nR nN nT X ρ φ4 y2 y6 _ (by omega) hy) ?_
        show qm_Rn (d + 1) 184 82 [.ref 10, .int x1, .int x2, .int y2, .int y5] [] (cw nR nN nT X ρ φ5) _
        refine qr_s hC (n := 5) (pc' := 88) (ls' := [.ref 10, .int x1, .int x2, .int y5, .int y5]) (st' := [.int x2, .int x1, .ref 10]) (h' := cw nR nN nT X ρ φ5) rfl ?_
        obtain ⟨y7, φ6, hy, hs⟩ := qb2_s hs
        refine qr_c (j := 183) (as := [.ref 10, .int x1, .int x2]) (rest := []) (v := some (.int y7)) (h1 := cw nR nN nT X ρ φ6) hC rfl rfl qC_183 rfl rfl (hg 2 φ5 x1 x2 _ hy) ?_
        show qm_Rn (d + 1) 184 91 [.ref 10, .int x1, .int x2, .int y5, .int y5] [.int y7] (cw nR nN nT X ρ φ6) _
        refine qr_ne1 (tgt := 96) hC rfl (by decide) rfl (fun hc => ?_) (fun hc => ?_)
        · rw [if_pos hc] at hs
          exact qr_w (a := [.ref 10, .retAddr 0, .retAddr 0, .int y5, .retAddr 0]) ⟨Or.inr rfl, Or.inl rfl, Or.inl rfl, Or.inr rfl, Or.inl rfl, trivial⟩ (pa_ifStatement_L96_n F (d + 1) nR nN nT X ρ g hg (by omega) φ6 y5 _ hs)
        · rw [if_neg hc] at hs
          refine qr_s hC (n := 1) (pc' := 95) (ls' := [.ref 10, .int x1, .int x2, .int y5, .int y5]) (st' := [.int 0]) (h' := cw nR nN nT X ρ φ6) rfl ?_
          have hs := Option.some.inj hs
          subst hs
          exact qr_r hC rfl rfl
    · rw [if_neg hc] at hs
      refine qr_s hC (n := 1) (pc' := 33) (ls' := [.ref 10, .int x1, .int x2, .int y2, .retAddr 0]) (st' := [.int 0]) (h' := cw nR nN nT X ρ φ3) rfl ?_
      have hs := Option.some.inj hs
      subst hs
      exact qr_r hC rfl rfl
  · rw [if_neg hc] at hs
    refine qr_s hC (n := 1) (pc' := 10) (ls' := [.ref 10, .int x1, .int x2, .retAddr 0, .retAddr 0]) (st' := [.int 0]) (h' := cw nR nN nT X ρ φ1) rfl ?_
    have hs := Option.some.inj hs
    subst hs
    exact qr_r hC rfl rfl

/-- SketchFiller$Parser.loopStatement(II)Z -/
def pa_loopStatement (F : Nat) (nR nN nT : Nat) (g : Nat → qm_F → Int32 → Int32 → Option (Int32 × qm_F)) (φ : qm_F) (x1 : Int32) (x2 : Int32) : Option (Int32 × qm_F) :=
  qb2 (pa_takeNumber F nR nN nT φ 1 9) fun y1 φ1 =>
  if ¬ y1 = 0 then
    qb2 (pr_emit F nR nN nT φ1 9 x1 (φ1 10 4)) fun y2 φ2 =>
    qb2 (pr_emit F nR nN nT φ2 6 0 0) fun y3 φ3 =>
    qb2 (g 2 φ3 x1 x2) fun y4 φ4 =>
    if ¬ y4 = 0 then
      qb2 (pr_emit F nR nN nT φ4 10 x1 y3) fun y5 φ5 =>
      some (1, φ5)
    else
      some (0, φ4)
  else
    some (0, φ1)
set_option maxRecDepth 100000 in
theorem pa_loopStatement_n (F d : Nat) (nR nN nT : Nat) (X : List (Nat × Nat)) (ρ : Nat → Nat → Option Nat) (g : Nat → qm_F → Int32 → Int32 → Option (Int32 × qm_F)) (hg : ∀ t φ a b r, g t φ a b = some r → cg_S_ok nR nN nT X ρ (d - 1) t φ a b r) (hd : 85 ≤ d) (φ : qm_F) (x1 : Int32) (x2 : Int32) (r : (Int32 × qm_F)) (hs : pa_loopStatement F nR nN nT g φ x1 x2 = some r) : qm_Rn d 185 0 [.ref 10, .int x1, .int x2, .retAddr 0] [] (cw nR nN nT X ρ φ) (some (.int r.1), cw nR nN nT X ρ r.2) := by
  obtain ⟨d, rfl⟩ : ∃ e, d = e + 1 := ⟨d - 1, by omega⟩
  simp only [Nat.add_sub_cancel] at hg
  have hC := qC_185
  unfold pa_loopStatement at hs
  refine qr_s hC (n := 3) (pc' := 4) (ls' := [.ref 10, .int x1, .int x2, .retAddr 0]) (st' := [.int 9, .int 1, .ref 10]) (h' := cw nR nN nT X ρ φ) rfl ?_
  obtain ⟨y1, φ1, hy, hs⟩ := qb2_s hs
  refine qr_c (j := 172) (as := [.ref 10, .int 1, .int 9]) (rest := []) (v := some (.int y1)) (h1 := cw nR nN nT X ρ φ1) hC rfl rfl qC_172 rfl rfl (pa_takeNumber_n F d nR nN nT X ρ φ 1 9 _ (by omega) hy) ?_
  show qm_Rn (d + 1) 185 7 [.ref 10, .int x1, .int x2, .retAddr 0] [.int y1] (cw nR nN nT X ρ φ1) _
  refine qr_ne1 (tgt := 12) hC rfl (by decide) rfl (fun hc => ?_) (fun hc => ?_)
  · rw [if_pos hc] at hs
    refine qr_s hC (n := 6) (pc' := 23) (ls' := [.ref 10, .int x1, .int x2, .retAddr 0]) (st' := [.int (φ1 10 4), .int x1, .int 9, .ref 14]) (h' := cw nR nN nT X ρ φ1) rfl ?_
    obtain ⟨y2, φ2, hy, hs⟩ := qb2_s hs
    refine qr_c (j := 197) (as := [.ref 14, .int 9, .int x1, .int (φ1 10 4)]) (rest := []) (v := some (.int y2)) (h1 := cw nR nN nT X ρ φ2) hC rfl rfl qC_197 rfl rfl (pr_emit_n F d nR nN nT X ρ φ1 9 x1 (φ1 10 4) _ (by omega) hy) ?_
    show qm_Rn (d + 1) 185 26 [.ref 10, .int x1, .int x2, .retAddr 0] [.int y2] (cw nR nN nT X ρ φ2) _
    refine qr_s hC (n := 6) (pc' := 35) (ls' := [.ref 10, .int x1, .int x2, .retAddr 0]) (st' := [.int 0, .int 0, .int 6, .ref 14]) (h' := cw nR nN nT X ρ φ2) rfl ?_
    obtain ⟨y3, φ3, hy, hs⟩ := qb2_s hs
    refine qr_c (j := 197) (as := [.ref 14, .int 6, .int 0, .int 0]) (rest := []) (v := some (.int y3)) (h1 := cw nR nN nT X ρ φ3) hC rfl rfl qC_197 rfl rfl (pr_emit_n F d nR nN nT X ρ φ2 6 0 0 _ (by omega) hy) ?_
    show qm_Rn (d + 1) 185 38 [.ref 10, .int x1, .int x2, .retAddr 0] [.int y3] (cw nR nN nT X ρ φ3) _
    refine qr_s hC (n := 4) (pc' := 42) (ls' := [.ref 10, .int x1, .int x2, .int y3]) (st' := [.int x2, .int x1, .ref 10]) (h' := cw nR nN nT X ρ φ3) rfl ?_
    obtain ⟨y4, φ4, hy, hs⟩ := qb2_s hs
    refine qr_c (j := 183) (as := [.ref 10, .int x1, .int x2]) (rest := []) (v := some (.int y4)) (h1 := cw nR nN nT X ρ φ4) hC rfl rfl qC_183 rfl rfl (hg 2 φ3 x1 x2 _ hy) ?_
    show qm_Rn (d + 1) 185 45 [.ref 10, .int x1, .int x2, .int y3] [.int y4] (cw nR nN nT X ρ φ4) _
    refine qr_ne1 (tgt := 50) hC rfl (by decide) rfl (fun hc => ?_) (fun hc => ?_)
    · rw [if_pos hc] at hs
      refine qr_s hC (n := 5) (pc' := 58) (ls' := [.ref 10, .int x1, .int x2, .int y3]) (st' := [.int y3, .int x1, .int 10, .ref 14]) (h' := cw nR nN nT X ρ φ4) rfl ?_
      obtain ⟨y5, φ5, hy, hs⟩ := qb2_s hs
      refine qr_c (j := 197) (as := [.ref 14, .int 10, .int x1, .int y3]) (rest := []) (v := some (.int y5)) (h1 := cw nR nN nT X ρ φ5) hC rfl rfl qC_197 rfl rfl (pr_emit_n F d nR nN nT X ρ φ4 10 x1 y3 _ (by omega) hy) ?_
      show qm_Rn (d + 1) 185 61 [.ref 10, .int x1, .int x2, .int y3] [.int y5] (cw nR nN nT X ρ φ5) _
      refine qr_s hC (n := 2) (pc' := 63) (ls' := [.ref 10, .int x1, .int x2, .int y3]) (st' := [.int 1]) (h' := cw nR nN nT X ρ φ5) rfl ?_
      have hs := Option.some.inj hs
      subst hs
      exact qr_r hC rfl rfl
    · rw [if_neg hc] at hs
      refine qr_s hC (n := 1) (pc' := 49) (ls' := [.ref 10, .int x1, .int x2, .int y3]) (st' := [.int 0]) (h' := cw nR nN nT X ρ φ4) rfl ?_
      have hs := Option.some.inj hs
      subst hs
      exact qr_r hC rfl rfl
  · rw [if_neg hc] at hs
    refine qr_s hC (n := 1) (pc' := 11) (ls' := [.ref 10, .int x1, .int x2, .retAddr 0]) (st' := [.int 0]) (h' := cw nR nN nT X ρ φ1) rfl ?_
    have hs := Option.some.inj hs
    subst hs
    exact qr_r hC rfl rfl

/-- SketchFiller$Parser.whileStatement(II)Z -/
def pa_whileStatement (F : Nat) (nR nN nT : Nat) (g : Nat → qm_F → Int32 → Int32 → Option (Int32 × qm_F)) (φ : qm_F) (x1 : Int32) (x2 : Int32) : Option (Int32 × qm_F) :=
  qb2 (pr_emit F nR nN nT φ 11 x1 0) fun y1 φ1 =>
  qb2 (cg_E F nR nN nT 80 0 φ1 0 0) fun y2 φ2 =>
  if y2 = 0 then
    some (0, φ2)
  else
    qb2 (pa_take F nR nN nT φ2 138) fun y3 φ3 =>
    if y3 = 0 then
      some (0, φ3)
    else
      qb2 (pa_takeNumber F nR nN nT φ3 1 9) fun y4 φ4 =>
      if ¬ y4 = 0 then
        qb1 (pr_aim F nR nN nT φ4 y1 (φ4 10 4)) fun φ5 =>
        qb2 (pr_emit F nR nN nT φ5 12 x1 0) fun y5 φ6 =>
        qb2 (pr_emit F nR nN nT φ6 6 0 0) fun y6 φ7 =>
        qb2 (g 2 φ7 x1 x2) fun y7 φ8 =>
        if ¬ y7 = 0 then
          qb2 (pr_emit F nR nN nT φ8 7 0 (y1 + 1)) fun y8 φ9 =>
          qb1 (pr_size F nR nN nT φ9) fun y9 =>
          qb1 (pr_aim F nR nN nT φ9 y5 y9) fun φ10 =>
          some (1, φ10)
        else
          some (0, φ8)
      else
        some (0, φ4)
set_option maxRecDepth 100000 in
theorem pa_whileStatement_n (F d : Nat) (nR nN nT : Nat) (X : List (Nat × Nat)) (ρ : Nat → Nat → Option Nat) (g : Nat → qm_F → Int32 → Int32 → Option (Int32 × qm_F)) (hg : ∀ t φ a b r, g t φ a b = some r → cg_S_ok nR nN nT X ρ (d - 1) t φ a b r) (hd : 85 ≤ d) (φ : qm_F) (x1 : Int32) (x2 : Int32) (r : (Int32 × qm_F)) (hs : pa_whileStatement F nR nN nT g φ x1 x2 = some r) : qm_Rn d 186 0 [.ref 10, .int x1, .int x2, .retAddr 0, .retAddr 0] [] (cw nR nN nT X ρ φ) (some (.int r.1), cw nR nN nT X ρ r.2) := by
  obtain ⟨d, rfl⟩ : ∃ e, d = e + 1 := ⟨d - 1, by omega⟩
  simp only [Nat.add_sub_cancel] at hg
  have hC := qC_186
  unfold pa_whileStatement at hs
  refine qr_s hC (n := 5) (pc' := 8) (ls' := [.ref 10, .int x1, .int x2, .retAddr 0, .retAddr 0]) (st' := [.int 0, .int x1, .int 11, .ref 14]) (h' := cw nR nN nT X ρ φ) rfl ?_
  obtain ⟨y1, φ1, hy, hs⟩ := qb2_s hs
  refine qr_c (j := 197) (as := [.ref 14, .int 11, .int x1, .int 0]) (rest := []) (v := some (.int y1)) (h1 := cw nR nN nT X ρ φ1) hC rfl rfl qC_197 rfl rfl (pr_emit_n F d nR nN nT X ρ φ 11 x1 0 _ (by omega) hy) ?_
  show qm_Rn (d + 1) 186 11 [.ref 10, .int x1, .int x2, .retAddr 0, .retAddr 0] [.int y1] (cw nR nN nT X ρ φ1) _
  refine qr_s hC (n := 4) (pc' := 15) (ls' := [.ref 10, .int x1, .int x2, .int y1, .retAddr 0]) (st' := [.int 0, .int 0, .ref 10]) (h' := cw nR nN nT X ρ φ1) rfl ?_
  obtain ⟨y2, φ2, hy, hs⟩ := qb2_s hs
  refine qr_c (j := 189) (as := [.ref 10, .int 0, .int 0]) (rest := []) (v := some (.int y2)) (h1 := cw nR nN nT X ρ φ2) hC rfl rfl qC_189 rfl rfl (cg_E_n F nR nN nT X ρ 80 0 φ1 0 0 _ d (by omega) hy) ?_
  show qm_Rn (d + 1) 186 18 [.ref 10, .int x1, .int x2, .int y1, .retAddr 0] [.int y2] (cw nR nN nT X ρ φ2) _
  refine qr_eq1 (tgt := 41) hC rfl (by decide) rfl (fun hc => ?_) (fun hc => ?_)
  · rw [if_pos hc] at hs
    refine qr_s hC (n := 1) (pc' := 42) (ls' := [.ref 10, .int x1, .int x2, .int y1, .retAddr 0]) (st' := [.int 0]) (h' := cw nR nN nT X ρ φ2) rfl ?_
    have hs := Option.some.inj hs
    subst hs
    exact qr_r hC rfl rfl
  · rw [if_neg hc] at hs
    refine qr_s hC (n := 2) (pc' := 25) (ls' := [.ref 10, .int x1, .int x2, .int y1, .retAddr 0]) (st' := [.int 138, .ref 10]) (h' := cw nR nN nT X ρ φ2) rfl ?_
    obtain ⟨y3, φ3, hy, hs⟩ := qb2_s hs
    refine qr_c (j := 171) (as := [.ref 10, .int 138]) (rest := []) (v := some (.int y3)) (h1 := cw nR nN nT X ρ φ3) hC rfl rfl qC_171 rfl rfl (pa_take_n F d nR nN nT X ρ φ2 138 _ (by omega) hy) ?_
    show qm_Rn (d + 1) 186 28 [.ref 10, .int x1, .int x2, .int y1, .retAddr 0] [.int y3] (cw nR nN nT X ρ φ3) _
    refine qr_eq1 (tgt := 41) hC rfl (by decide) rfl (fun hc => ?_) (fun hc => ?_)
    · rw [if_pos hc] at hs
      refine qr_s hC (n := 1) (pc' := 42) (ls' := [.ref 10, .int x1, .int x2, .int y1, .retAddr 0]) (st' := [.int 0]) (h' := cw nR nN nT X ρ φ3) rfl ?_
      have hs := Option.some.inj hs
      subst hs
      exact qr_r hC rfl rfl
    · rw [if_neg hc] at hs
      refine qr_s hC (n := 3) (pc' := 35) (ls' := [.ref 10, .int x1, .int x2, .int y1, .retAddr 0]) (st' := [.int 9, .int 1, .ref 10]) (h' := cw nR nN nT X ρ φ3) rfl ?_
      obtain ⟨y4, φ4, hy, hs⟩ := qb2_s hs
      refine qr_c (j := 172) (as := [.ref 10, .int 1, .int 9]) (rest := []) (v := some (.int y4)) (h1 := cw nR nN nT X ρ φ4) hC rfl rfl qC_172 rfl rfl (pa_takeNumber_n F d nR nN nT X ρ φ3 1 9 _ (by omega) hy) ?_
      show qm_Rn (d + 1) 186 38 [.ref 10, .int x1, .int x2, .int y1, .retAddr 0] [.int y4] (cw nR nN nT X ρ φ4) _
      refine qr_ne1 (tgt := 43) hC rfl (by decide) rfl (fun hc => ?_) (fun hc => ?_)
      · rw [if_pos hc] at hs
        refine qr_s hC (n := 5) (pc' := 52) (ls' := [.ref 10, .int x1, .int x2, .int y1, .retAddr 0]) (st' := [.int (φ4 10 4), .int y1, .ref 14]) (h' := cw nR nN nT X ρ φ4) rfl ?_
        obtain ⟨φ5, hy, hs⟩ := qb1_s hs
        refine qr_c (j := 198) (as := [.ref 14, .int y1, .int (φ4 10 4)]) (rest := []) (v := none) (h1 := cw nR nN nT X ρ φ5) hC rfl rfl qC_198 rfl rfl (pr_aim_n F d nR nN nT X ρ φ4 y1 (φ4 10 4) _ (by omega) hy) ?_
        show qm_Rn (d + 1) 186 55 [.ref 10, .int x1, .int x2, .int y1, .retAddr 0] [] (cw nR nN nT X ρ φ5) _
        refine qr_s hC (n := 5) (pc' := 63) (ls' := [.ref 10, .int x1, .int x2, .int y1, .retAddr 0]) (st' := [.int 0, .int x1, .int 12, .ref 14]) (h' := cw nR nN nT X ρ φ5) rfl ?_
        obtain ⟨y5, φ6, hy, hs⟩ := qb2_s hs
        refine qr_c (j := 197) (as := [.ref 14, .int 12, .int x1, .int 0]) (rest := []) (v := some (.int y5)) (h1 := cw nR nN nT X ρ φ6) hC rfl rfl qC_197 rfl rfl (pr_emit_n F d nR nN nT X ρ φ5 12 x1 0 _ (by omega) hy) ?_
        show qm_Rn (d + 1) 186 66 [.ref 10, .int x1, .int x2, .int y1, .retAddr 0] [.int y5] (cw nR nN nT X ρ φ6) _
        refine qr_s hC (n := 6) (pc' := 76) (ls' := [.ref 10, .int x1, .int x2, .int y1, .int y5]) (st' := [.int 0, .int 0, .int 6, .ref 14]) (h' := cw nR nN nT X ρ φ6) rfl ?_
        obtain ⟨y6, φ7, hy, hs⟩ := qb2_s hs
        refine qr_c (j := 197) (as := [.ref 14, .int 6, .int 0, .int 0]) (rest := []) (v := some (.int y6)) (h1 := cw nR nN nT X ρ φ7) hC rfl rfl qC_197 rfl rfl (pr_emit_n F d nR nN nT X ρ φ6 6 0 0 _ (by omega) hy) ?_
        show qm_Rn (d + 1) 186 79 [.ref 10, .int x1, .int x2, .int y1, .int y5] [.int y6] (cw nR nN nT X ρ φ7) _
        refine qr_s hC (n := 4) (pc' := 83) (ls' := [.ref 10, .int x1, .int x2, .int y1, .int y5]) (st' := [.int x2, .int x1, .ref 10]) (h' := cw nR nN nT X ρ φ7) rfl ?_
        obtain ⟨y7, φ8, hy, hs⟩ := qb2_s hs
        refine qr_c (j := 183) (as := [.ref 10, .int x1, .int x2]) (rest := []) (v := some (.int y7)) (h1 := cw nR nN nT X ρ φ8) hC rfl rfl qC_183 rfl rfl (hg 2 φ7 x1 x2 _ hy) ?_
        show qm_Rn (d + 1) 186 86 [.ref 10, .int x1, .int x2, .int y1, .int y5] [.int y7] (cw nR nN nT X ρ φ8) _
        refine qr_ne1 (tgt := 91) hC rfl (by decide) rfl (fun hc => ?_) (fun hc => ?_)
        · rw [if_pos hc] at hs
          refine qr_s hC (n := 7) (pc' := 101) (ls' := [.ref 10, .int x1, .int x2, .int y1, .int y5]) (st' := [.int (y1 + 1), .int 0, .int 7, .ref 14]) (h' := cw nR nN nT X ρ φ8) rfl ?_
          obtain ⟨y8, φ9, hy, hs⟩ := qb2_s hs
          refine qr_c (j := 197) (as := [.ref 14, .int 7, .int 0, .int (y1 + 1)]) (rest := []) (v := some (.int y8)) (h1 := cw nR nN nT X ρ φ9) hC rfl rfl qC_197 rfl rfl (pr_emit_n F d nR nN nT X ρ φ8 7 0 (y1 + 1) _ (by omega) hy) ?_
          show qm_Rn (d + 1) 186 104 [.ref 10, .int x1, .int x2, .int y1, .int y5] [.int y8] (cw nR nN nT X ρ φ9) _
          refine qr_s hC (n := 6) (pc' := 115) (ls' := [.ref 10, .int x1, .int x2, .int y1, .int y5]) (st' := [.ref 14, .int y5, .ref 14]) (h' := cw nR nN nT X ρ φ9) rfl ?_
          obtain ⟨y9, hy, hs⟩ := qb1_s hs
          refine qr_c (j := 199) (as := [.ref 14]) (rest := [.int y5, .ref 14]) (v := some (.int y9)) (h1 := cw nR nN nT X ρ φ9) hC rfl rfl qC_199 rfl rfl (pr_size_n F d nR nN nT X ρ φ9 _ (by omega) hy) ?_
          show qm_Rn (d + 1) 186 118 [.ref 10, .int x1, .int x2, .int y1, .int y5] [.int y9, .int y5, .ref 14] (cw nR nN nT X ρ φ9) _
          obtain ⟨φ10, hy, hs⟩ := qb1_s hs
          refine qr_c (j := 198) (as := [.ref 14, .int y5, .int y9]) (rest := []) (v := none) (h1 := cw nR nN nT X ρ φ10) hC rfl rfl qC_198 rfl rfl (pr_aim_n F d nR nN nT X ρ φ9 y5 y9 _ (by omega) hy) ?_
          show qm_Rn (d + 1) 186 121 [.ref 10, .int x1, .int x2, .int y1, .int y5] [] (cw nR nN nT X ρ φ10) _
          refine qr_s hC (n := 1) (pc' := 122) (ls' := [.ref 10, .int x1, .int x2, .int y1, .int y5]) (st' := [.int 1]) (h' := cw nR nN nT X ρ φ10) rfl ?_
          have hs := Option.some.inj hs
          subst hs
          exact qr_r hC rfl rfl
        · rw [if_neg hc] at hs
          refine qr_s hC (n := 1) (pc' := 90) (ls' := [.ref 10, .int x1, .int x2, .int y1, .int y5]) (st' := [.int 0]) (h' := cw nR nN nT X ρ φ8) rfl ?_
          have hs := Option.some.inj hs
          subst hs
          exact qr_r hC rfl rfl
      · rw [if_neg hc] at hs
        refine qr_s hC (n := 1) (pc' := 42) (ls' := [.ref 10, .int x1, .int x2, .int y1, .retAddr 0]) (st' := [.int 0]) (h' := cw nR nN nT X ρ φ4) rfl ?_
        have hs := Option.some.inj hs
        subst hs
        exact qr_r hC rfl rfl

/-- SketchFiller$Parser.letStatement(II)Z -/
def pa_letStatement (F : Nat) (nR nN nT : Nat) (g : Nat → qm_F → Int32 → Int32 → Option (Int32 × qm_F)) (φ : qm_F) (x1 : Int32) (x2 : Int32) : Option (Int32 × qm_F) :=
  qb2 (pa_takeNewName F nR nN nT φ) fun y1 φ1 =>
  if ¬ y1 = 0 then
    qb2 (pa_take F nR nN nT φ1 61) fun y2 φ2 =>
    if y2 = 0 then
      some (0, φ2)
    else
      qb2 (cg_E F nR nN nT 80 0 φ2 0 0) fun y3 φ3 =>
      if ¬ y3 = 0 then
        qb2 (pr_emit F nR nN nT φ3 3 (12 + x2) 0) fun y4 φ4 =>
        qb1 (na_add F nR nN nT φ4 (φ1 10 4) (12 + x2)) fun φ5 =>
        qb2 (g 2 φ5 x1 (x2 + 1)) fun y5 φ6 =>
        qb1 (na_removeLatest F nR nN nT φ6) fun φ7 =>
        qg (qm_bz y5) (some (y5, φ7))
      else
        some (0, φ3)
  else
    some (0, φ1)
set_option maxRecDepth 100000 in
theorem pa_letStatement_n (F d : Nat) (nR nN nT : Nat) (X : List (Nat × Nat)) (ρ : Nat → Nat → Option Nat) (g : Nat → qm_F → Int32 → Int32 → Option (Int32 × qm_F)) (hg : ∀ t φ a b r, g t φ a b = some r → cg_S_ok nR nN nT X ρ (d - 1) t φ a b r) (hd : 85 ≤ d) (φ : qm_F) (x1 : Int32) (x2 : Int32) (r : (Int32 × qm_F)) (hs : pa_letStatement F nR nN nT g φ x1 x2 = some r) : qm_Rn d 187 0 [.ref 10, .int x1, .int x2, .retAddr 0, .retAddr 0, .retAddr 0] [] (cw nR nN nT X ρ φ) (some (.int r.1), cw nR nN nT X ρ r.2) := by
  obtain ⟨d, rfl⟩ : ∃ e, d = e + 1 := ⟨d - 1, by omega⟩
  simp only [Nat.add_sub_cancel] at hg
  have hC := qC_187
  unfold pa_letStatement at hs
  refine qr_s hC (n := 1) (pc' := 1) (ls' := [.ref 10, .int x1, .int x2, .retAddr 0, .retAddr 0, .retAddr 0]) (st' := [.ref 10]) (h' := cw nR nN nT X ρ φ) rfl ?_
  obtain ⟨y1, φ1, hy, hs⟩ := qb2_s hs
  refine qr_c (j := 174) (as := [.ref 10]) (rest := []) (v := some (.int y1)) (h1 := cw nR nN nT X ρ φ1) hC rfl rfl qC_174 rfl rfl (pa_takeNewName_n F d nR nN nT X ρ φ _ (by omega) hy) ?_
  show qm_Rn (d + 1) 187 4 [.ref 10, .int x1, .int x2, .retAddr 0, .retAddr 0, .retAddr 0] [.int y1] (cw nR nN nT X ρ φ1) _
  refine qr_ne1 (tgt := 9) hC rfl (by decide) rfl (fun hc => ?_) (fun hc => ?_)
  · rw [if_pos hc] at hs
    refine qr_s hC (n := 5) (pc' := 17) (ls' := [.ref 10, .int x1, .int x2, .int (φ1 10 4), .retAddr 0, .retAddr 0]) (st' := [.int 61, .ref 10]) (h' := cw nR nN nT X ρ φ1) rfl ?_
    obtain ⟨y2, φ2, hy, hs⟩ := qb2_s hs
    refine qr_c (j := 171) (as := [.ref 10, .int 61]) (rest := []) (v := some (.int y2)) (h1 := cw nR nN nT X ρ φ2) hC rfl rfl qC_171 rfl rfl (pa_take_n F d nR nN nT X ρ φ1 61 _ (by omega) hy) ?_
    show qm_Rn (d + 1) 187 20 [.ref 10, .int x1, .int x2, .int (φ1 10 4), .retAddr 0, .retAddr 0] [.int y2] (cw nR nN nT X ρ φ2) _
    refine qr_eq1 (tgt := 32) hC rfl (by decide) rfl (fun hc => ?_) (fun hc => ?_)
    · rw [if_pos hc] at hs
      refine qr_s hC (n := 1) (pc' := 33) (ls' := [.ref 10, .int x1, .int x2, .int (φ1 10 4), .retAddr 0, .retAddr 0]) (st' := [.int 0]) (h' := cw nR nN nT X ρ φ2) rfl ?_
      have hs := Option.some.inj hs
      subst hs
      exact qr_r hC rfl rfl
    · rw [if_neg hc] at hs
      refine qr_s hC (n := 3) (pc' := 26) (ls' := [.ref 10, .int x1, .int x2, .int (φ1 10 4), .retAddr 0, .retAddr 0]) (st' := [.int 0, .int 0, .ref 10]) (h' := cw nR nN nT X ρ φ2) rfl ?_
      obtain ⟨y3, φ3, hy, hs⟩ := qb2_s hs
      refine qr_c (j := 189) (as := [.ref 10, .int 0, .int 0]) (rest := []) (v := some (.int y3)) (h1 := cw nR nN nT X ρ φ3) hC rfl rfl qC_189 rfl rfl (cg_E_n F nR nN nT X ρ 80 0 φ2 0 0 _ d (by omega) hy) ?_
      show qm_Rn (d + 1) 187 29 [.ref 10, .int x1, .int x2, .int (φ1 10 4), .retAddr 0, .retAddr 0] [.int y3] (cw nR nN nT X ρ φ3) _
      refine qr_ne1 (tgt := 34) hC rfl (by decide) rfl (fun hc => ?_) (fun hc => ?_)
      · rw [if_pos hc] at hs
        refine qr_s hC (n := 9) (pc' := 48) (ls' := [.ref 10, .int x1, .int x2, .int (φ1 10 4), .int (12 + x2), .retAddr 0]) (st' := [.int 0, .int (12 + x2), .int 3, .ref 14]) (h' := cw nR nN nT X ρ φ3) rfl ?_
        obtain ⟨y4, φ4, hy, hs⟩ := qb2_s hs
        refine qr_c (j := 197) (as := [.ref 14, .int 3, .int (12 + x2), .int 0]) (rest := []) (v := some (.int y4)) (h1 := cw nR nN nT X ρ φ4) hC rfl rfl qC_197 rfl rfl (pr_emit_n F d nR nN nT X ρ φ3 3 (12 + x2) 0 _ (by omega) hy) ?_
        show qm_Rn (d + 1) 187 51 [.ref 10, .int x1, .int x2, .int (φ1 10 4), .int (12 + x2), .retAddr 0] [.int y4] (cw nR nN nT X ρ φ4) _
        refine qr_s hC (n := 5) (pc' := 59) (ls' := [.ref 10, .int x1, .int x2, .int (φ1 10 4), .int (12 + x2), .retAddr 0]) (st' := [.int (12 + x2), .int (φ1 10 4), .ref 11]) (h' := cw nR nN nT X ρ φ4) rfl ?_
        obtain ⟨φ5, hy, hs⟩ := qb1_s hs
        refine qr_c (j := 163) (as := [.ref 11, .int (φ1 10 4), .int (12 + x2)]) (rest := []) (v := none) (h1 := cw nR nN nT X ρ φ5) hC rfl rfl qC_163 rfl rfl (na_add_n F d nR nN nT X ρ φ4 (φ1 10 4) (12 + x2) _ (by omega) hy) ?_
        show qm_Rn (d + 1) 187 62 [.ref 10, .int x1, .int x2, .int (φ1 10 4), .int (12 + x2), .retAddr 0] [] (cw nR nN nT X ρ φ5) _
        refine qr_s hC (n := 5) (pc' := 67) (ls' := [.ref 10, .int x1, .int x2, .int (φ1 10 4), .int (12 + x2), .retAddr 0]) (st' := [.int (x2 + 1), .int x1, .ref 10]) (h' := cw nR nN nT X ρ φ5) rfl ?_
        obtain ⟨y5, φ6, hy, hs⟩ := qb2_s hs
        refine qr_c (j := 183) (as := [.ref 10, .int x1, .int (x2 + 1)]) (rest := []) (v := some (.int y5)) (h1 := cw nR nN nT X ρ φ6) hC rfl rfl qC_183 rfl rfl (hg 2 φ5 x1 (x2 + 1) _ hy) ?_
        show qm_Rn (d + 1) 187 70 [.ref 10, .int x1, .int x2, .int (φ1 10 4), .int (12 + x2), .retAddr 0] [.int y5] (cw nR nN nT X ρ φ6) _
        refine qr_s hC (n := 3) (pc' := 76) (ls' := [.ref 10, .int x1, .int x2, .int (φ1 10 4), .int (12 + x2), .int y5]) (st' := [.ref 11]) (h' := cw nR nN nT X ρ φ6) rfl ?_
        obtain ⟨φ7, hy, hs⟩ := qb1_s hs
        refine qr_c (j := 164) (as := [.ref 11]) (rest := []) (v := none) (h1 := cw nR nN nT X ρ φ7) hC rfl rfl qC_164 rfl rfl (na_removeLatest_n F d nR nN nT X ρ φ6 _ (by omega) hy) ?_
        show qm_Rn (d + 1) 187 79 [.ref 10, .int x1, .int x2, .int (φ1 10 4), .int (12 + x2), .int y5] [] (cw nR nN nT X ρ φ7) _
        refine qr_s hC (n := 1) (pc' := 81) (ls' := [.ref 10, .int x1, .int x2, .int (φ1 10 4), .int (12 + x2), .int y5]) (st' := [.int y5]) (h' := cw nR nN nT X ρ φ7) rfl ?_
        obtain ⟨hz, hs⟩ := qg_s hs
        have hs := Option.some.inj hs
        subst hs
        exact qr_rz hC rfl hz
      · rw [if_neg hc] at hs
        refine qr_s hC (n := 1) (pc' := 33) (ls' := [.ref 10, .int x1, .int x2, .int (φ1 10 4), .retAddr 0, .retAddr 0]) (st' := [.int 0]) (h' := cw nR nN nT X ρ φ3) rfl ?_
        have hs := Option.some.inj hs
        subst hs
        exact qr_r hC rfl rfl
  · rw [if_neg hc] at hs
    refine qr_s hC (n := 1) (pc' := 8) (ls' := [.ref 10, .int x1, .int x2, .retAddr 0, .retAddr 0, .retAddr 0]) (st' := [.int 0]) (h' := cw nR nN nT X ρ φ1) rfl ?_
    have hs := Option.some.inj hs
    subst hs
    exact qr_r hC rfl rfl

def cg_S (F : Nat) (nR nN nT : Nat) : Nat → Nat → qm_F → Int32 → Int32 → Option (Int32 × qm_F)
  | 0, _, _, _, _ => none
  | m + 1, t, φ, a, b =>
    if t = 0 then pa_block F nR nN nT (cg_S F nR nN nT m) φ a b else
    if t = 1 then pa_statement F nR nN nT (cg_S F nR nN nT m) φ a b else
    if t = 2 then pa_braced F nR nN nT (cg_S F nR nN nT m) φ a b else
    if t = 3 then pa_ifStatement F nR nN nT (cg_S F nR nN nT m) φ a b else
    if t = 4 then pa_loopStatement F nR nN nT (cg_S F nR nN nT m) φ a b else
    if t = 5 then pa_whileStatement F nR nN nT (cg_S F nR nN nT m) φ a b else
    pa_letStatement F nR nN nT (cg_S F nR nN nT m) φ a b

theorem cg_S_n (F : Nat) (nR nN nT : Nat) (X : List (Nat × Nat)) (ρ : Nat → Nat → Option Nat) : ∀ (m t : Nat) (φ : qm_F) (a b : Int32) (r : Int32 × qm_F) (d : Nat), 85 + m ≤ d → cg_S F nR nN nT m t φ a b = some r → cg_S_ok nR nN nT X ρ d t φ a b r := by
  intro m
  induction m with
  | zero => intro t φ a b r d hd hs; simp [cg_S] at hs
  | succ m ih =>
    intro t φ a b r d hd hs
    rw [cg_S] at hs
    have hg : ∀ t φ a b r, cg_S F nR nN nT m t φ a b = some r → cg_S_ok nR nN nT X ρ (d - 1) t φ a b r := fun t φ a b r q => ih t φ a b r (d - 1) (by omega) q
    unfold cg_S_ok
    by_cases h0 : t = 0
    · rw [if_pos h0] at hs ⊢
      exact pa_block_n F d nR nN nT X ρ (cg_S F nR nN nT m) hg (by omega) φ a b r hs
    rw [if_neg h0] at hs ⊢
    by_cases h1 : t = 1
    · rw [if_pos h1] at hs ⊢
      exact pa_statement_n F d nR nN nT X ρ (cg_S F nR nN nT m) hg (by omega) φ a b r hs
    rw [if_neg h1] at hs ⊢
    by_cases h2 : t = 2
    · rw [if_pos h2] at hs ⊢
      exact pa_braced_n F d nR nN nT X ρ (cg_S F nR nN nT m) hg (by omega) φ a b r hs
    rw [if_neg h2] at hs ⊢
    by_cases h3 : t = 3
    · rw [if_pos h3] at hs ⊢
      exact pa_ifStatement_n F d nR nN nT X ρ (cg_S F nR nN nT m) hg (by omega) φ a b r hs
    rw [if_neg h3] at hs ⊢
    by_cases h4 : t = 4
    · rw [if_pos h4] at hs ⊢
      exact pa_loopStatement_n F d nR nN nT X ρ (cg_S F nR nN nT m) hg (by omega) φ a b r hs
    rw [if_neg h4] at hs ⊢
    by_cases h5 : t = 5
    · rw [if_pos h5] at hs ⊢
      exact pa_whileStatement_n F d nR nN nT X ρ (cg_S F nR nN nT m) hg (by omega) φ a b r hs
    rw [if_neg h5] at hs ⊢
    exact pa_letStatement_n F d nR nN nT X ρ (cg_S F nR nN nT m) hg (by omega) φ a b r hs
/-- SketchFiller$Parser.spec()Z -/
def pa_spec (F : Nat) (nR nN nT : Nat) (φ : qm_F) : Option (Int32 × qm_F) :=
  qb2 (pa_take F nR nN nT φ 140) fun y1 φ1 =>
  if y1 = 0 then
    some (0, φ1)
  else
    qb2 (pa_endedBy F nR nN nT φ1 14 0) fun y2 φ2 =>
    if y2 = 0 then
      some (0, φ2)
    else
      some (1, φ2)
set_option maxRecDepth 100000 in
theorem pa_spec_n (F d : Nat) (nR nN nT : Nat) (X : List (Nat × Nat)) (ρ : Nat → Nat → Option Nat) (φ : qm_F) (r : (Int32 × qm_F)) (hd : 85 ≤ d) (hs : pa_spec F nR nN nT φ = some r) : qm_Rn d 188 0 [.ref 10] [] (cw nR nN nT X ρ φ) (some (.int r.1), cw nR nN nT X ρ r.2) := by
  obtain ⟨d, rfl⟩ : ∃ e, d = e + 1 := ⟨d - 1, by omega⟩
  have hC := qC_188
  unfold pa_spec at hs
  refine qr_s hC (n := 2) (pc' := 4) (ls' := [.ref 10]) (st' := [.int 140, .ref 10]) (h' := cw nR nN nT X ρ φ) rfl ?_
  obtain ⟨y1, φ1, hy, hs⟩ := qb2_s hs
  refine qr_c (j := 171) (as := [.ref 10, .int 140]) (rest := []) (v := some (.int y1)) (h1 := cw nR nN nT X ρ φ1) hC rfl rfl qC_171 rfl rfl (pa_take_n F d nR nN nT X ρ φ 140 _ (by omega) hy) ?_
  show qm_Rn (d + 1) 188 7 [.ref 10] [.int y1] (cw nR nN nT X ρ φ1) _
  refine qr_eq1 (tgt := 24) hC rfl (by decide) rfl (fun hc => ?_) (fun hc => ?_)
  · rw [if_pos hc] at hs
    refine qr_s hC (n := 1) (pc' := 25) (ls' := [.ref 10]) (st' := [.int 0]) (h' := cw nR nN nT X ρ φ1) rfl ?_
    have hs := Option.some.inj hs
    subst hs
    exact qr_r hC rfl rfl
  · rw [if_neg hc] at hs
    refine qr_s hC (n := 3) (pc' := 14) (ls' := [.ref 10]) (st' := [.int 0, .int 14, .ref 10]) (h' := cw nR nN nT X ρ φ1) rfl ?_
    obtain ⟨y2, φ2, hy, hs⟩ := qb2_s hs
    refine qr_c (j := 182) (as := [.ref 10, .int 14, .int 0]) (rest := []) (v := some (.int y2)) (h1 := cw nR nN nT X ρ φ2) hC rfl rfl qC_182 rfl rfl (pa_endedBy_n F d nR nN nT X ρ φ1 14 0 _ (by omega) hy) ?_
    show qm_Rn (d + 1) 188 17 [.ref 10] [.int y2] (cw nR nN nT X ρ φ2) _
    refine qr_eq1 (tgt := 24) hC rfl (by decide) rfl (fun hc => ?_) (fun hc => ?_)
    · rw [if_pos hc] at hs
      refine qr_s hC (n := 1) (pc' := 25) (ls' := [.ref 10]) (st' := [.int 0]) (h' := cw nR nN nT X ρ φ2) rfl ?_
      have hs := Option.some.inj hs
      subst hs
      exact qr_r hC rfl rfl
    · rw [if_neg hc] at hs
      refine qr_s hC (n := 2) (pc' := 25) (ls' := [.ref 10]) (st' := [.int 1]) (h' := cw nR nN nT X ρ φ2) rfl ?_
      have hs := Option.some.inj hs
      subst hs
      exact qr_r hC rfl rfl
/-- SketchFiller$Parser.wholeSketch()Z -/
def pa_wholeSketch (F : Nat) (nR nN nT : Nat) (φ : qm_F) : Option (Int32 × qm_F) :=
  qb2 (pa_take F nR nN nT φ 128) fun y1 φ1 =>
  if y1 = 0 then
    some (0, φ1)
  else
    qb2 (pa_takeNumber F nR nN nT φ1 1 16) fun y2 φ2 =>
    if ¬ y2 = 0 then
      qb2 (pa_take F nR nN nT (qm_u φ2 14 0 (φ2 10 4)) 59) fun y3 φ3 =>
      if y3 = 0 then
        some (0, φ3)
      else
        qb2 (pa_lines F nR nN nT φ3) fun y4 φ4 =>
        if ¬ y4 = 0 then
          qb2 (cg_S F nR nN nT 40 0 (qm_u φ4 14 17 (φ4 10 3)) 0 0) fun y5 φ5 =>
          if y5 = 0 then
            some (0, φ5)
          else
            qb2 (pa_spec F nR nN nT φ5) fun y6 φ6 =>
            if y6 = 0 then
              some (0, φ6)
            else
              qb2 (pa_take F nR nN nT φ6 0) fun y7 φ7 =>
              if y7 = 0 then
                some (0, φ7)
              else
                some (1, φ7)
        else
          some (0, φ4)
    else
      some (0, φ2)
set_option maxRecDepth 100000 in
theorem pa_wholeSketch_n (F d : Nat) (nR nN nT : Nat) (X : List (Nat × Nat)) (ρ : Nat → Nat → Option Nat) (φ : qm_F) (r : (Int32 × qm_F)) (hd : 126 ≤ d) (hs : pa_wholeSketch F nR nN nT φ = some r) : qm_Rn d 168 0 [.ref 10] [] (cw nR nN nT X ρ φ) (some (.int r.1), cw nR nN nT X ρ r.2) := by
  obtain ⟨d, rfl⟩ : ∃ e, d = e + 1 := ⟨d - 1, by omega⟩
  have hC := qC_168
  unfold pa_wholeSketch at hs
  refine qr_s hC (n := 2) (pc' := 4) (ls' := [.ref 10]) (st' := [.int 128, .ref 10]) (h' := cw nR nN nT X ρ φ) rfl ?_
  obtain ⟨y1, φ1, hy, hs⟩ := qb2_s hs
  refine qr_c (j := 171) (as := [.ref 10, .int 128]) (rest := []) (v := some (.int y1)) (h1 := cw nR nN nT X ρ φ1) hC rfl rfl qC_171 rfl rfl (pa_take_n F d nR nN nT X ρ φ 128 _ (by omega) hy) ?_
  show qm_Rn (d + 1) 168 7 [.ref 10] [.int y1] (cw nR nN nT X ρ φ1) _
  refine qr_eq1 (tgt := 20) hC rfl (by decide) rfl (fun hc => ?_) (fun hc => ?_)
  · rw [if_pos hc] at hs
    refine qr_s hC (n := 1) (pc' := 21) (ls' := [.ref 10]) (st' := [.int 0]) (h' := cw nR nN nT X ρ φ1) rfl ?_
    have hs := Option.some.inj hs
    subst hs
    exact qr_r hC rfl rfl
  · rw [if_neg hc] at hs
    refine qr_s hC (n := 3) (pc' := 14) (ls' := [.ref 10]) (st' := [.int 16, .int 1, .ref 10]) (h' := cw nR nN nT X ρ φ1) rfl ?_
    obtain ⟨y2, φ2, hy, hs⟩ := qb2_s hs
    refine qr_c (j := 172) (as := [.ref 10, .int 1, .int 16]) (rest := []) (v := some (.int y2)) (h1 := cw nR nN nT X ρ φ2) hC rfl rfl qC_172 rfl rfl (pa_takeNumber_n F d nR nN nT X ρ φ1 1 16 _ (by omega) hy) ?_
    show qm_Rn (d + 1) 168 17 [.ref 10] [.int y2] (cw nR nN nT X ρ φ2) _
    refine qr_ne1 (tgt := 22) hC rfl (by decide) rfl (fun hc => ?_) (fun hc => ?_)
    · rw [if_pos hc] at hs
      refine qr_s hC (n := 7) (pc' := 36) (ls' := [.ref 10]) (st' := [.int 59, .ref 10]) (h' := cw nR nN nT X ρ (qm_u φ2 14 0 (φ2 10 4))) rfl ?_
      obtain ⟨y3, φ3, hy, hs⟩ := qb2_s hs
      refine qr_c (j := 171) (as := [.ref 10, .int 59]) (rest := []) (v := some (.int y3)) (h1 := cw nR nN nT X ρ φ3) hC rfl rfl qC_171 rfl rfl (pa_take_n F d nR nN nT X ρ (qm_u φ2 14 0 (φ2 10 4)) 59 _ (by omega) hy) ?_
      show qm_Rn (d + 1) 168 39 [.ref 10] [.int y3] (cw nR nN nT X ρ φ3) _
      refine qr_eq1 (tgt := 49) hC rfl (by decide) rfl (fun hc => ?_) (fun hc => ?_)
      · rw [if_pos hc] at hs
        refine qr_s hC (n := 1) (pc' := 50) (ls' := [.ref 10]) (st' := [.int 0]) (h' := cw nR nN nT X ρ φ3) rfl ?_
        have hs := Option.some.inj hs
        subst hs
        exact qr_r hC rfl rfl
      · rw [if_neg hc] at hs
        refine qr_s hC (n := 1) (pc' := 43) (ls' := [.ref 10]) (st' := [.ref 10]) (h' := cw nR nN nT X ρ φ3) rfl ?_
        obtain ⟨y4, φ4, hy, hs⟩ := qb2_s hs
        refine qr_c (j := 175) (as := [.ref 10]) (rest := []) (v := some (.int y4)) (h1 := cw nR nN nT X ρ φ4) hC rfl rfl qC_175 rfl rfl (pa_lines_n F d nR nN nT X ρ φ3 _ (by omega) hy) ?_
        show qm_Rn (d + 1) 168 46 [.ref 10] [.int y4] (cw nR nN nT X ρ φ4) _
        refine qr_ne1 (tgt := 51) hC rfl (by decide) rfl (fun hc => ?_) (fun hc => ?_)
        · rw [if_pos hc] at hs
          refine qr_s hC (n := 8) (pc' := 65) (ls' := [.ref 10]) (st' := [.int 0, .int 0, .ref 10]) (h' := cw nR nN nT X ρ (qm_u φ4 14 17 (φ4 10 3))) rfl ?_
          obtain ⟨y5, φ5, hy, hs⟩ := qb2_s hs
          refine qr_c (j := 179) (as := [.ref 10, .int 0, .int 0]) (rest := []) (v := some (.int y5)) (h1 := cw nR nN nT X ρ φ5) hC rfl rfl qC_179 rfl rfl (cg_S_n F nR nN nT X ρ 40 0 (qm_u φ4 14 17 (φ4 10 3)) 0 0 _ d (by omega) hy) ?_
          show qm_Rn (d + 1) 168 68 [.ref 10] [.int y5] (cw nR nN nT X ρ φ5) _
          refine qr_eq1 (tgt := 90) hC rfl (by decide) rfl (fun hc => ?_) (fun hc => ?_)
          · rw [if_pos hc] at hs
            refine qr_s hC (n := 1) (pc' := 91) (ls' := [.ref 10]) (st' := [.int 0]) (h' := cw nR nN nT X ρ φ5) rfl ?_
            have hs := Option.some.inj hs
            subst hs
            exact qr_r hC rfl rfl
          · rw [if_neg hc] at hs
            refine qr_s hC (n := 1) (pc' := 72) (ls' := [.ref 10]) (st' := [.ref 10]) (h' := cw nR nN nT X ρ φ5) rfl ?_
            obtain ⟨y6, φ6, hy, hs⟩ := qb2_s hs
            refine qr_c (j := 188) (as := [.ref 10]) (rest := []) (v := some (.int y6)) (h1 := cw nR nN nT X ρ φ6) hC rfl rfl qC_188 rfl rfl (pa_spec_n F d nR nN nT X ρ φ5 _ (by omega) hy) ?_
            show qm_Rn (d + 1) 168 75 [.ref 10] [.int y6] (cw nR nN nT X ρ φ6) _
            refine qr_eq1 (tgt := 90) hC rfl (by decide) rfl (fun hc => ?_) (fun hc => ?_)
            · rw [if_pos hc] at hs
              refine qr_s hC (n := 1) (pc' := 91) (ls' := [.ref 10]) (st' := [.int 0]) (h' := cw nR nN nT X ρ φ6) rfl ?_
              have hs := Option.some.inj hs
              subst hs
              exact qr_r hC rfl rfl
            · rw [if_neg hc] at hs
              refine qr_s hC (n := 2) (pc' := 80) (ls' := [.ref 10]) (st' := [.int 0, .ref 10]) (h' := cw nR nN nT X ρ φ6) rfl ?_
              obtain ⟨y7, φ7, hy, hs⟩ := qb2_s hs
              refine qr_c (j := 171) (as := [.ref 10, .int 0]) (rest := []) (v := some (.int y7)) (h1 := cw nR nN nT X ρ φ7) hC rfl rfl qC_171 rfl rfl (pa_take_n F d nR nN nT X ρ φ6 0 _ (by omega) hy) ?_
              show qm_Rn (d + 1) 168 83 [.ref 10] [.int y7] (cw nR nN nT X ρ φ7) _
              refine qr_eq1 (tgt := 90) hC rfl (by decide) rfl (fun hc => ?_) (fun hc => ?_)
              · rw [if_pos hc] at hs
                refine qr_s hC (n := 1) (pc' := 91) (ls' := [.ref 10]) (st' := [.int 0]) (h' := cw nR nN nT X ρ φ7) rfl ?_
                have hs := Option.some.inj hs
                subst hs
                exact qr_r hC rfl rfl
              · rw [if_neg hc] at hs
                refine qr_s hC (n := 2) (pc' := 91) (ls' := [.ref 10]) (st' := [.int 1]) (h' := cw nR nN nT X ρ φ7) rfl ?_
                have hs := Option.some.inj hs
                subst hs
                exact qr_r hC rfl rfl
        · rw [if_neg hc] at hs
          refine qr_s hC (n := 1) (pc' := 50) (ls' := [.ref 10]) (st' := [.int 0]) (h' := cw nR nN nT X ρ φ4) rfl ?_
          have hs := Option.some.inj hs
          subst hs
          exact qr_r hC rfl rfl
    · rw [if_neg hc] at hs
      refine qr_s hC (n := 1) (pc' := 21) (ls' := [.ref 10]) (st' := [.int 0]) (h' := cw nR nN nT X ρ φ2) rfl ?_
      have hs := Option.some.inj hs
      subst hs
      exact qr_r hC rfl rfl
/-- SketchFiller$Program.mask()I -/
def pr_mask (F : Nat) (nR nN nT : Nat) (φ : qm_F) : Option Int32 :=
  some (((1 : Int32) <<< ((φ 14 0) &&& 31)) - 1)
set_option maxRecDepth 100000 in
theorem pr_mask_n (F d : Nat) (nR nN nT : Nat) (X : List (Nat × Nat)) (ρ : Nat → Nat → Option Nat) (φ : qm_F) (r : Int32) (hd : 0 ≤ d) (hs : pr_mask F nR nN nT φ = some r) : qm_Rn d 200 0 [.ref 14] [] (cw nR nN nT X ρ φ) (some (.int r), cw nR nN nT X ρ φ) := by
  have hC := qC_200
  unfold pr_mask at hs
  refine qr_s hC (n := 6) (pc' := 8) (ls' := [.ref 14]) (st' := [.int (((1 : Int32) <<< ((φ 14 0) &&& 31)) - 1)]) (h' := cw nR nN nT X ρ φ) rfl ?_
  have hs := Option.some.inj hs
  subst hs
  exact qr_r hC rfl rfl
/-- SketchFiller$Program.rankGuesses()V -/
def pr_rankGuesses_L21 (F : Nat) (nR nN nT gg : Nat) : Nat → Nat → qm_F → Int32 → Int32 → Int32 → Option qm_F
  | 0, _, _, _, _, _ => none
  | n + 1, t, φ, x1, x2, x3 =>
    if t = 0 then
      if x1 ≤ x2 then
        some φ
      else
        pr_rankGuesses_L21 F nR nN nT gg n 1 φ x1 x2 0
    else
    if t = 1 then
      if (φ 14 2) ≤ x3 then
        pr_rankGuesses_L21 F nR nN nT gg n 2 φ x1 x2 x2
      else
        qg (qm_in x2 gg) <|
        qg (qm_in x3 5) <|
        qb1 (pr_valueOf F nR nN nT φ x2 x3) fun y1 =>
        qg (qm_in x2 gg) <|
        pr_rankGuesses_L21 F nR nN nT gg n 1 (qm_u φ 23 x2.toNatClampNeg ((φ 23 x2.toNatClampNeg) + ((φ 17 x3.toNatClampNeg) * y1))) x1 x2 (x3 + 1)
    else
    if t = 2 then
      if x3 ≤ 0 then
        pr_rankGuesses_L21 F nR nN nT gg n 3 φ x1 x2 x3
      else
        qg (qm_in (x3 - 1) gg) <|
        qg (qm_in (φ 24 ((x3 - 1).toNatClampNeg)) gg) <|
        qg (qm_in x2 gg) <|
        if (φ 23 ((φ 24 ((x3 - 1).toNatClampNeg)).toNatClampNeg)) ≤ (φ 23 x2.toNatClampNeg) then
          pr_rankGuesses_L21 F nR nN nT gg n 3 φ x1 x2 x3
        else
          qg (qm_in (x3 - 1) gg) <|
          qg (qm_in x3 gg) <|
          pr_rankGuesses_L21 F nR nN nT gg n 2 (qm_u φ 24 x3.toNatClampNeg (φ 24 ((x3 - 1).toNatClampNeg))) x1 x2 (x3 + (-1))
    else
    qg (qm_in x3 gg) <|
    pr_rankGuesses_L21 F nR nN nT gg n 0 (qm_u φ 24 x3.toNatClampNeg x2) x1 (x2 + 1) 0
set_option maxRecDepth 100000 in
theorem pr_rankGuesses_L21_n0 (F d : Nat) (nR nN nT gg : Nat) (X : List (Nat × Nat)) (ρ : Nat → Nat → Option Nat) (hd : 2 ≤ d) : ∀ (n t : Nat) (φ : qm_F) (x1 : Int32) (x2 : Int32) (x3 : Int32) (r : qm_F), pr_rankGuesses_L21 F nR nN nT gg n t φ x1 x2 x3 = some r → (t = 0 → qm_Rn d 211 21 [.ref 14, .int x1, .int x2, .retAddr 0] [] (cr nR nN nT gg X ρ φ) (none, cr nR nN nT gg X ρ r)) ∧ (t = 1 → qm_Rn d 211 28 [.ref 14, .int x1, .int x2, .int x3] [] (cr nR nN nT gg X ρ φ) (none, cr nR nN nT gg X ρ r)) ∧ (t = 2 → qm_Rn d 211 66 [.ref 14, .int x1, .int x2, .int x3] [] (cr nR nN nT gg X ρ φ) (none, cr nR nN nT gg X ρ r)) ∧ (t ≠ 0 ∧ t ≠ 1 ∧ t ≠ 2 → qm_Rn d 211 112 [.ref 14, .int x1, .int x2, .int x3] [] (cr nR nN nT gg X ρ φ) (none, cr nR nN nT gg X ρ r)) := by
  obtain ⟨d, rfl⟩ : ∃ e, d = e + 1 := ⟨d - 1, by omega⟩
  have hC := qC_211
  intro n
  induction n with
  | zero => intro t φ x1 x2 x3 r hs; simp [pr_rankGuesses_L21] at hs
  | succ n ihh =>
    intro t φ x1 x2 x3 r hs
    rw [pr_rankGuesses_L21] at hs
    have ih0 : ∀ (φ : qm_F) (x1 : Int32) (x2 : Int32) (x3 : Int32) (r : qm_F), pr_rankGuesses_L21 F nR nN nT gg n 0 φ x1 x2 x3 = some r → _ := fun φ x1 x2 x3 r q => (ihh 0 φ x1 x2 x3 r q).1 rfl
    have ih1 : ∀ (φ : qm_F) (x1 : Int32) (x2 : Int32) (x3 : Int32) (r : qm_F), pr_rankGuesses_L21 F nR nN nT gg n 1 φ x1 x2 x3 = some r → _ := fun φ x1 x2 x3 r q => (ihh 1 φ x1 x2 x3 r q).2.1 rfl
    have ih2 : ∀ (φ : qm_F) (x1 : Int32) (x2 : Int32) (x3 : Int32) (r : qm_F), pr_rankGuesses_L21 F nR nN nT gg n 2 φ x1 x2 x3 = some r → _ := fun φ x1 x2 x3 r q => (ihh 2 φ x1 x2 x3 r q).2.2.1 rfl
    have ih3 : ∀ (φ : qm_F) (x1 : Int32) (x2 : Int32) (x3 : Int32) (r : qm_F), pr_rankGuesses_L21 F nR nN nT gg n 3 φ x1 x2 x3 = some r → _ := fun φ x1 x2 x3 r q => (ihh 3 φ x1 x2 x3 r q).2.2.2 ⟨by decide, by decide, by decide⟩
    refine ⟨fun ht => ?_, fun ht => ?_, fun ht => ?_, fun ht => ?_⟩
    · subst ht
      rw [if_pos rfl] at hs
      refine qr_s hC (n := 2) (pc' := 23) (ls' := [.ref 14, .int x1, .int x2, .retAddr 0]) (st' := [.int x1, .int x2]) (h' := cr nR nN nT gg X ρ φ) rfl ?_
      refine qr_ge2 (tgt := 125) hC rfl (by decide) rfl (fun hc => ?_) (fun hc => ?_)
      · rw [if_pos hc] at hs
        have hs := Option.some.inj hs
        subst hs
        exact qr_r hC rfl rfl
      · rw [if_neg hc] at hs
        refine qr_s hC (n := 2) (pc' := 28) (ls' := [.ref 14, .int x1, .int x2, .int 0]) (st' := []) (h' := cr nR nN nT gg X ρ φ) rfl ?_
        exact (ih1 φ x1 x2 0 _ hs)
    · subst ht
      rw [if_neg (by decide)] at hs
      rw [if_pos rfl] at hs
      refine qr_s hC (n := 3) (pc' := 33) (ls' := [.ref 14, .int x1, .int x2, .int x3]) (st' := [.int (φ 14 2), .int x3]) (h' := cr nR nN nT gg X ρ φ) rfl ?_
      refine qr_ge2 (tgt := 64) hC rfl (by decide) rfl (fun hc => ?_) (fun hc => ?_)
      · rw [if_pos hc] at hs
        refine qr_s hC (n := 2) (pc' := 66) (ls' := [.ref 14, .int x1, .int x2, .int x2]) (st' := []) (h' := cr nR nN nT gg X ρ φ) rfl ?_
        exact (ih2 φ x1 x2 x2 _ hs)
      · rw [if_neg hc] at hs
        refine qr_s hC (n := 4) (pc' := 42) (ls' := [.ref 14, .int x1, .int x2, .int x3]) (st' := [.int x2, .ref 23, .int x2, .ref 23]) (h' := cr nR nN nT gg X ρ φ) rfl ?_
        obtain ⟨hq, hs⟩ := qg_s hs
        refine qr_ia (v := φ 23 x2.toNatClampNeg) hC rfl rfl hq rfl ?_
        refine qr_s hC (n := 3) (pc' := 48) (ls' := [.ref 14, .int x1, .int x2, .int x3]) (st' := [.int x3, .ref 17, .int (φ 23 x2.toNatClampNeg), .int x2, .ref 23]) (h' := cr nR nN nT gg X ρ φ) rfl ?_
        obtain ⟨hq, hs⟩ := qg_s hs
        refine qr_ia (v := φ 17 x3.toNatClampNeg) hC rfl rfl hq rfl ?_
        refine qr_s hC (n := 3) (pc' := 52) (ls' := [.ref 14, .int x1, .int x2, .int x3]) (st' := [.int x3, .int x2, .ref 14, .int (φ 17 x3.toNatClampNeg), .int (φ 23 x2.toNatClampNeg), .int x2, .ref 23]) (h' := cr nR nN nT gg X ρ φ) rfl ?_
        obtain ⟨y1, hy, hs⟩ := qb1_s hs
        refine qr_c (j := 208) (as := [.ref 14, .int x2, .int x3]) (rest := [.int (φ 17 x3.toNatClampNeg), .int (φ 23 x2.toNatClampNeg), .int x2, .ref 23]) (v := some (.int y1)) (h1 := cr nR nN nT gg X ρ φ) hC rfl rfl qC_208 rfl rfl (pr_valueOf_n F d nR nN nT (cr_X gg X) (cr_R ρ) φ x2 x3 _ (by omega) hy) ?_
        show qm_Rn (d + 1) 211 55 [.ref 14, .int x1, .int x2, .int x3] [.int y1, .int (φ 17 x3.toNatClampNeg), .int (φ 23 x2.toNatClampNeg), .int x2, .ref 23] (cr nR nN nT gg X ρ φ) _
        refine qr_s hC (n := 2) (pc' := 57) (ls' := [.ref 14, .int x1, .int x2, .int x3]) (st' := [.int ((φ 23 x2.toNatClampNeg) + ((φ 17 x3.toNatClampNeg) * y1)), .int x2, .ref 23]) (h' := cr nR nN nT gg X ρ φ) rfl ?_
        obtain ⟨hq, hs⟩ := qg_s hs
        refine qr_is (h' := cr nR nN nT gg X ρ (qm_u φ 23 x2.toNatClampNeg ((φ 23 x2.toNatClampNeg) + ((φ 17 x3.toNatClampNeg) * y1)))) hC rfl rfl hq rfl ?_
        refine qr_s hC (n := 2) (pc' := 28) (ls' := [.ref 14, .int x1, .int x2, .int (x3 + 1)]) (st' := []) (h' := cr nR nN nT gg X ρ (qm_u φ 23 x2.toNatClampNeg ((φ 23 x2.toNatClampNeg) + ((φ 17 x3.toNatClampNeg) * y1)))) rfl ?_
        exact (ih1 (qm_u φ 23 x2.toNatClampNeg ((φ 23 x2.toNatClampNeg) + ((φ 17 x3.toNatClampNeg) * y1))) x1 x2 (x3 + 1) _ hs)
    · subst ht
      rw [if_neg (by decide)] at hs
      rw [if_neg (by decide)] at hs
      rw [if_pos rfl] at hs
      refine qr_s hC (n := 1) (pc' := 67) (ls' := [.ref 14, .int x1, .int x2, .int x3]) (st' := [.int x3]) (h' := cr nR nN nT gg X ρ φ) rfl ?_
      refine qr_le1 (tgt := 112) hC rfl (by decide) rfl (fun hc => ?_) (fun hc => ?_)
      · rw [if_pos hc] at hs
        exact (ih3 φ x1 x2 x3 _ hs)
      · rw [if_neg hc] at hs
        refine qr_s hC (n := 7) (pc' := 81) (ls' := [.ref 14, .int x1, .int x2, .int x3]) (st' := [.int (x3 - 1), .ref 24, .ref 23]) (h' := cr nR nN nT gg X ρ φ) rfl ?_
        obtain ⟨hq, hs⟩ := qg_s hs
        refine qr_ia (v := φ 24 ((x3 - 1).toNatClampNeg)) hC rfl rfl hq rfl ?_
        obtain ⟨hq, hs⟩ := qg_s hs
        refine qr_ia (v := φ 23 ((φ 24 ((x3 - 1).toNatClampNeg)).toNatClampNeg)) hC rfl rfl hq rfl ?_
        refine qr_s hC (n := 3) (pc' := 88) (ls' := [.ref 14, .int x1, .int x2, .int x3]) (st' := [.int x2, .ref 23, .int (φ 23 ((φ 24 ((x3 - 1).toNatClampNeg)).toNatClampNeg))]) (h' := cr nR nN nT gg X ρ φ) rfl ?_
        obtain ⟨hq, hs⟩ := qg_s hs
        refine qr_ia (v := φ 23 x2.toNatClampNeg) hC rfl rfl hq rfl ?_
        refine qr_le2 (tgt := 112) hC rfl (by decide) rfl (fun hc => ?_) (fun hc => ?_)
        · rw [if_pos hc] at hs
          exact (ih3 φ x1 x2 x3 _ hs)
        · rw [if_neg hc] at hs
          refine qr_s hC (n := 8) (pc' := 104) (ls' := [.ref 14, .int x1, .int x2, .int x3]) (st' := [.int (x3 - 1), .ref 24, .int x3, .ref 24]) (h' := cr nR nN nT gg X ρ φ) rfl ?_
          obtain ⟨hq, hs⟩ := qg_s hs
          refine qr_ia (v := φ 24 ((x3 - 1).toNatClampNeg)) hC rfl rfl hq rfl ?_
          obtain ⟨hq, hs⟩ := qg_s hs
          refine qr_is (h' := cr nR nN nT gg X ρ (qm_u φ 24 x3.toNatClampNeg (φ 24 ((x3 - 1).toNatClampNeg)))) hC rfl rfl hq rfl ?_
          refine qr_s hC (n := 2) (pc' := 66) (ls' := [.ref 14, .int x1, .int x2, .int (x3 + (-1))]) (st' := []) (h' := cr nR nN nT gg X ρ (qm_u φ 24 x3.toNatClampNeg (φ 24 ((x3 - 1).toNatClampNeg)))) rfl ?_
          exact (ih2 (qm_u φ 24 x3.toNatClampNeg (φ 24 ((x3 - 1).toNatClampNeg))) x1 x2 (x3 + (-1)) _ hs)
    · obtain ⟨ht0, ht1, ht2⟩ := ht
      rw [if_neg ht0] at hs
      rw [if_neg ht1] at hs
      rw [if_neg ht2] at hs
      refine qr_s hC (n := 4) (pc' := 118) (ls' := [.ref 14, .int x1, .int x2, .int x3]) (st' := [.int x2, .int x3, .ref 24]) (h' := cr nR nN nT gg X ρ φ) rfl ?_
      obtain ⟨hq, hs⟩ := qg_s hs
      refine qr_is (h' := cr nR nN nT gg X ρ (qm_u φ 24 x3.toNatClampNeg x2)) hC rfl rfl hq rfl ?_
      refine qr_s hC (n := 2) (pc' := 21) (ls' := [.ref 14, .int x1, .int (x2 + 1), .int x3]) (st' := []) (h' := cr nR nN nT gg X ρ (qm_u φ 24 x3.toNatClampNeg x2)) rfl ?_
      exact qr_w (a := [.ref 14, .int x1, .int (x2 + 1), .retAddr 0]) ⟨Or.inr rfl, Or.inr rfl, Or.inr rfl, Or.inl rfl, trivial⟩ (ih0 (qm_u φ 24 x3.toNatClampNeg x2) x1 (x2 + 1) 0 _ hs)
theorem pr_rankGuesses_L21_n_t0 (F d : Nat) (nR nN nT gg : Nat) (X : List (Nat × Nat)) (ρ : Nat → Nat → Option Nat) (hd : 2 ≤ d) (n : Nat) (φ : qm_F) (x1 : Int32) (x2 : Int32) (x3 : Int32) (r : qm_F) (hs : pr_rankGuesses_L21 F nR nN nT gg n 0 φ x1 x2 x3 = some r) : qm_Rn d 211 21 [.ref 14, .int x1, .int x2, .retAddr 0] [] (cr nR nN nT gg X ρ φ) (none, cr nR nN nT gg X ρ r) := (pr_rankGuesses_L21_n0 F d nR nN nT gg X ρ hd n 0 φ x1 x2 x3 r hs).1 rfl
theorem pr_rankGuesses_L21_n_t1 (F d : Nat) (nR nN nT gg : Nat) (X : List (Nat × Nat)) (ρ : Nat → Nat → Option Nat) (hd : 2 ≤ d) (n : Nat) (φ : qm_F) (x1 : Int32) (x2 : Int32) (x3 : Int32) (r : qm_F) (hs : pr_rankGuesses_L21 F nR nN nT gg n 1 φ x1 x2 x3 = some r) : qm_Rn d 211 28 [.ref 14, .int x1, .int x2, .int x3] [] (cr nR nN nT gg X ρ φ) (none, cr nR nN nT gg X ρ r) := (pr_rankGuesses_L21_n0 F d nR nN nT gg X ρ hd n 1 φ x1 x2 x3 r hs).2.1 rfl
theorem pr_rankGuesses_L21_n_t2 (F d : Nat) (nR nN nT gg : Nat) (X : List (Nat × Nat)) (ρ : Nat → Nat → Option Nat) (hd : 2 ≤ d) (n : Nat) (φ : qm_F) (x1 : Int32) (x2 : Int32) (x3 : Int32) (r : qm_F) (hs : pr_rankGuesses_L21 F nR nN nT gg n 2 φ x1 x2 x3 = some r) : qm_Rn d 211 66 [.ref 14, .int x1, .int x2, .int x3] [] (cr nR nN nT gg X ρ φ) (none, cr nR nN nT gg X ρ r) := (pr_rankGuesses_L21_n0 F d nR nN nT gg X ρ hd n 2 φ x1 x2 x3 r hs).2.2.1 rfl
theorem pr_rankGuesses_L21_n_t3 (F d : Nat) (nR nN nT gg : Nat) (X : List (Nat × Nat)) (ρ : Nat → Nat → Option Nat) (hd : 2 ≤ d) (n : Nat) (φ : qm_F) (x1 : Int32) (x2 : Int32) (x3 : Int32) (r : qm_F) (hs : pr_rankGuesses_L21 F nR nN nT gg n 3 φ x1 x2 x3 = some r) : qm_Rn d 211 112 [.ref 14, .int x1, .int x2, .int x3] [] (cr nR nN nT gg X ρ φ) (none, cr nR nN nT gg X ρ r) := (pr_rankGuesses_L21_n0 F d nR nN nT gg X ρ hd n 3 φ x1 x2 x3 r hs).2.2.2 ⟨by decide, by decide, by decide⟩
/-- SketchFiller$Tokens.isLetter(I)Z -/
def to_isLetter (F : Nat) (nR nN : Nat) (φ : qm_F) (x0 : Int32) : Option Int32 :=
  if x0 < 97 then
    some 0
  else
    if 122 < x0 then
      some 0
    else
      some 1
set_option maxRecDepth 100000 in
theorem to_isLetter_n (F d : Nat) (nR nN : Nat) (X : List (Nat × Nat)) (ρ : Nat → Nat → Option Nat) (φ : qm_F) (x0 : Int32) (r : Int32) (hd : 0 ≤ d) (hs : to_isLetter F nR nN φ x0 = some r) : qm_Rn d 262 0 [.int x0] [] (ct nR nN X ρ φ) (some (.int r), ct nR nN X ρ φ) := by
  have hC := qC_262
  unfold to_isLetter at hs
  refine qr_s hC (n := 2) (pc' := 3) (ls' := [.int x0]) (st' := [.int 97, .int x0]) (h' := ct nR nN X ρ φ) rfl ?_
  refine qr_lt2 (tgt := 16) hC rfl (by decide) rfl (fun hc => ?_) (fun hc => ?_)
  · rw [if_pos hc] at hs
    refine qr_s hC (n := 1) (pc' := 17) (ls' := [.int x0]) (st' := [.int 0]) (h' := ct nR nN X ρ φ) rfl ?_
    have hs := Option.some.inj hs
    subst hs
    exact qr_r hC rfl rfl
  · rw [if_neg hc] at hs
    refine qr_s hC (n := 2) (pc' := 9) (ls' := [.int x0]) (st' := [.int 122, .int x0]) (h' := ct nR nN X ρ φ) rfl ?_
    refine qr_gt2 (tgt := 16) hC rfl (by decide) rfl (fun hc => ?_) (fun hc => ?_)
    · rw [if_pos hc] at hs
      refine qr_s hC (n := 1) (pc' := 17) (ls' := [.int x0]) (st' := [.int 0]) (h' := ct nR nN X ρ φ) rfl ?_
      have hs := Option.some.inj hs
      subst hs
      exact qr_r hC rfl rfl
    · rw [if_neg hc] at hs
      refine qr_s hC (n := 2) (pc' := 17) (ls' := [.int x0]) (st' := [.int 1]) (h' := ct nR nN X ρ φ) rfl ?_
      have hs := Option.some.inj hs
      subst hs
      exact qr_r hC rfl rfl
/-- SketchFiller$Tokens.isDigit(I)Z -/
def to_isDigit (F : Nat) (nR nN : Nat) (φ : qm_F) (x0 : Int32) : Option Int32 :=
  if x0 < 48 then
    some 0
  else
    if 57 < x0 then
      some 0
    else
      some 1
set_option maxRecDepth 100000 in
theorem to_isDigit_n (F d : Nat) (nR nN : Nat) (X : List (Nat × Nat)) (ρ : Nat → Nat → Option Nat) (φ : qm_F) (x0 : Int32) (r : Int32) (hd : 0 ≤ d) (hs : to_isDigit F nR nN φ x0 = some r) : qm_Rn d 263 0 [.int x0] [] (ct nR nN X ρ φ) (some (.int r), ct nR nN X ρ φ) := by
  have hC := qC_263
  unfold to_isDigit at hs
  refine qr_s hC (n := 2) (pc' := 3) (ls' := [.int x0]) (st' := [.int 48, .int x0]) (h' := ct nR nN X ρ φ) rfl ?_
  refine qr_lt2 (tgt := 16) hC rfl (by decide) rfl (fun hc => ?_) (fun hc => ?_)
  · rw [if_pos hc] at hs
    refine qr_s hC (n := 1) (pc' := 17) (ls' := [.int x0]) (st' := [.int 0]) (h' := ct nR nN X ρ φ) rfl ?_
    have hs := Option.some.inj hs
    subst hs
    exact qr_r hC rfl rfl
  · rw [if_neg hc] at hs
    refine qr_s hC (n := 2) (pc' := 9) (ls' := [.int x0]) (st' := [.int 57, .int x0]) (h' := ct nR nN X ρ φ) rfl ?_
    refine qr_gt2 (tgt := 16) hC rfl (by decide) rfl (fun hc => ?_) (fun hc => ?_)
    · rw [if_pos hc] at hs
      refine qr_s hC (n := 1) (pc' := 17) (ls' := [.int x0]) (st' := [.int 0]) (h' := ct nR nN X ρ φ) rfl ?_
      have hs := Option.some.inj hs
      subst hs
      exact qr_r hC rfl rfl
    · rw [if_neg hc] at hs
      refine qr_s hC (n := 2) (pc' := 17) (ls' := [.int x0]) (st' := [.int 1]) (h' := ct nR nN X ρ φ) rfl ?_
      have hs := Option.some.inj hs
      subst hs
      exact qr_r hC rfl rfl
/-- SketchFiller$Tokens.bytesTogether(I)I -/
def to_bytesTogether_L14 (F : Nat) (nR nN : Nat) : Nat → qm_F → Int32 → Int32 → Option Int32
  | 0, _, _, _ => none
  | n + 1, φ, x1, x2 =>
    qg (decide (nN < 2147483648)) <|
    if (Int32.ofNat nN) ≤ x2 then
      some (x2 - x1)
    else
      qg (qm_in x2 nN) <|
      qb1 (to_isLetter F nR nN φ (φ 5 x2.toNatClampNeg)) fun y1 =>
      if y1 = 0 then
        some (x2 - x1)
      else
        to_bytesTogether_L14 F nR nN n φ x1 (x2 + 1)
def to_bytesTogether_L72 (F : Nat) (nR nN : Nat) (φ : qm_F) (x1 : Int32) (x2 : Int32) : Option Int32 :=
  if ¬ x2 = x1 then
    some (x2 - x1)
  else
    some 1
def to_bytesTogether_L45 (F : Nat) (nR nN : Nat) : Nat → qm_F → Int32 → Int32 → Option Int32
  | 0, _, _, _ => none
  | n + 1, φ, x1, x2 =>
    qg (decide (nN < 2147483648)) <|
    if (Int32.ofNat nN) ≤ x2 then
      to_bytesTogether_L72 F nR nN φ x1 x2
    else
      qg (qm_in x2 nN) <|
      qb1 (to_isDigit F nR nN φ (φ 5 x2.toNatClampNeg)) fun y1 =>
      if y1 = 0 then
        to_bytesTogether_L72 F nR nN φ x1 x2
      else
        to_bytesTogether_L45 F nR nN n φ x1 (x2 + 1)
def to_bytesTogether (F : Nat) (nR nN : Nat) (φ : qm_F) (x1 : Int32) : Option Int32 :=
  qg (qm_in x1 nN) <|
  qb1 (to_isLetter F nR nN φ (φ 5 x1.toNatClampNeg)) fun y1 =>
  if y1 = 0 then
    to_bytesTogether_L45 F nR nN F φ x1 x1
  else
    to_bytesTogether_L14 F nR nN F φ x1 x1
set_option maxRecDepth 100000 in
theorem to_bytesTogether_L14_n (F d : Nat) (nR nN : Nat) (X : List (Nat × Nat)) (ρ : Nat → Nat → Option Nat) (hd : 1 ≤ d) : ∀ (n : Nat) (φ : qm_F) (x1 : Int32) (x2 : Int32) (r : Int32), to_bytesTogether_L14 F nR nN n φ x1 x2 = some r → qm_Rn d 256 14 [.ref 4, .int x1, .int x2] [] (ct nR nN X ρ φ) (some (.int r), ct nR nN X ρ φ) := by
  obtain ⟨d, rfl⟩ : ∃ e, d = e + 1 := ⟨d - 1, by omega⟩
  have hC := qC_256
  intro n
  induction n with
  | zero => intro φ x1 x2 r hs; simp [to_bytesTogether_L14] at hs
  | succ n ih =>
    intro φ x1 x2 r hs
    rw [to_bytesTogether_L14] at hs
    refine qr_s hC (n := 3) (pc' := 19) (ls' := [.ref 4, .int x1, .int x2]) (st' := [.ref 5, .int x2]) (h' := ct nR nN X ρ φ) rfl ?_
    obtain ⟨hq, hs⟩ := qg_s hs
    refine qr_al hC rfl rfl hq ?_
    refine qr_ge2 (tgt := 41) hC rfl (by decide) rfl (fun hc => ?_) (fun hc => ?_)
    · rw [if_pos hc] at hs
      refine qr_s hC (n := 3) (pc' := 44) (ls' := [.ref 4, .int x1, .int x2]) (st' := [.int (x2 - x1)]) (h' := ct nR nN X ρ φ) rfl ?_
      have hs := Option.some.inj hs
      subst hs
      exact qr_r hC rfl rfl
    · rw [if_neg hc] at hs
      refine qr_s hC (n := 3) (pc' := 28) (ls' := [.ref 4, .int x1, .int x2]) (st' := [.int x2, .ref 5]) (h' := ct nR nN X ρ φ) rfl ?_
      obtain ⟨hq, hs⟩ := qg_s hs
      refine qr_ia (v := φ 5 x2.toNatClampNeg) hC rfl rfl hq rfl ?_
      obtain ⟨y1, hy, hs⟩ := qb1_s hs
      refine qr_c (j := 262) (as := [.int (φ 5 x2.toNatClampNeg)]) (rest := []) (v := some (.int y1)) (h1 := ct nR nN X ρ φ) hC rfl rfl qC_262 rfl rfl (to_isLetter_n F d nR nN X ρ φ (φ 5 x2.toNatClampNeg) _ (by omega) hy) ?_
      show qm_Rn (d + 1) 256 32 [.ref 4, .int x1, .int x2] [.int y1] (ct nR nN X ρ φ) _
      refine qr_eq1 (tgt := 41) hC rfl (by decide) rfl (fun hc => ?_) (fun hc => ?_)
      · rw [if_pos hc] at hs
        refine qr_s hC (n := 3) (pc' := 44) (ls' := [.ref 4, .int x1, .int x2]) (st' := [.int (x2 - x1)]) (h' := ct nR nN X ρ φ) rfl ?_
        have hs := Option.some.inj hs
        subst hs
        exact qr_r hC rfl rfl
      · rw [if_neg hc] at hs
        refine qr_s hC (n := 2) (pc' := 14) (ls' := [.ref 4, .int x1, .int (x2 + 1)]) (st' := []) (h' := ct nR nN X ρ φ) rfl ?_
        exact ih φ x1 (x2 + 1) _ hs
set_option maxRecDepth 100000 in
theorem to_bytesTogether_L72_n (F d : Nat) (nR nN : Nat) (X : List (Nat × Nat)) (ρ : Nat → Nat → Option Nat) (hd : 1 ≤ d) (φ : qm_F) (x1 : Int32) (x2 : Int32) (r : Int32) (hs : to_bytesTogether_L72 F nR nN φ x1 x2 = some r) : qm_Rn d 256 72 [.retAddr 0, .int x1, .int x2] [] (ct nR nN X ρ φ) (some (.int r), ct nR nN X ρ φ) := by
  obtain ⟨d, rfl⟩ : ∃ e, d = e + 1 := ⟨d - 1, by omega⟩
  have hC := qC_256
  unfold to_bytesTogether_L72 at hs
  refine qr_s hC (n := 2) (pc' := 74) (ls' := [.retAddr 0, .int x1, .int x2]) (st' := [.int x1, .int x2]) (h' := ct nR nN X ρ φ) rfl ?_
  refine qr_ne2 (tgt := 81) hC rfl (by decide) rfl (fun hc => ?_) (fun hc => ?_)
  · rw [if_pos hc] at hs
    refine qr_s hC (n := 3) (pc' := 84) (ls' := [.retAddr 0, .int x1, .int x2]) (st' := [.int (x2 - x1)]) (h' := ct nR nN X ρ φ) rfl ?_
    have hs := Option.some.inj hs
    subst hs
    exact qr_r hC rfl rfl
  · rw [if_neg hc] at hs
    refine qr_s hC (n := 2) (pc' := 84) (ls' := [.retAddr 0, .int x1, .int x2]) (st' := [.int 1]) (h' := ct nR nN X ρ φ) rfl ?_
    have hs := Option.some.inj hs
    subst hs
    exact qr_r hC rfl rfl
set_option maxRecDepth 100000 in
theorem to_bytesTogether_L45_n (F d : Nat) (nR nN : Nat) (X : List (Nat × Nat)) (ρ : Nat → Nat → Option Nat) (hd : 1 ≤ d) : ∀ (n : Nat) (φ : qm_F) (x1 : Int32) (x2 : Int32) (r : Int32), to_bytesTogether_L45 F nR nN n φ x1 x2 = some r → qm_Rn d 256 45 [.ref 4, .int x1, .int x2] [] (ct nR nN X ρ φ) (some (.int r), ct nR nN X ρ φ) := by
  obtain ⟨d, rfl⟩ : ∃ e, d = e + 1 := ⟨d - 1, by omega⟩
  have hC := qC_256
  intro n
  induction n with
  | zero => intro φ x1 x2 r hs; simp [to_bytesTogether_L45] at hs
  | succ n ih =>
    intro φ x1 x2 r hs
    rw [to_bytesTogether_L45] at hs
    refine qr_s hC (n := 3) (pc' := 50) (ls' := [.ref 4, .int x1, .int x2]) (st' := [.ref 5, .int x2]) (h' := ct nR nN X ρ φ) rfl ?_
    obtain ⟨hq, hs⟩ := qg_s hs
    refine qr_al hC rfl rfl hq ?_
    refine qr_ge2 (tgt := 72) hC rfl (by decide) rfl (fun hc => ?_) (fun hc => ?_)
    · rw [if_pos hc] at hs
      exact qr_w (a := [.retAddr 0, .int x1, .int x2]) ⟨Or.inl rfl, Or.inr rfl, Or.inr rfl, trivial⟩ (to_bytesTogether_L72_n F (d + 1) nR nN X ρ (by omega) φ x1 x2 _ hs)
    · rw [if_neg hc] at hs
      refine qr_s hC (n := 3) (pc' := 59) (ls' := [.ref 4, .int x1, .int x2]) (st' := [.int x2, .ref 5]) (h' := ct nR nN X ρ φ) rfl ?_
      obtain ⟨hq, hs⟩ := qg_s hs
      refine qr_ia (v := φ 5 x2.toNatClampNeg) hC rfl rfl hq rfl ?_
      obtain ⟨y1, hy, hs⟩ := qb1_s hs
      refine qr_c (j := 263) (as := [.int (φ 5 x2.toNatClampNeg)]) (rest := []) (v := some (.int y1)) (h1 := ct nR nN X ρ φ) hC rfl rfl qC_263 rfl rfl (to_isDigit_n F d nR nN X ρ φ (φ 5 x2.toNatClampNeg) _ (by omega) hy) ?_
      show qm_Rn (d + 1) 256 63 [.ref 4, .int x1, .int x2] [.int y1] (ct nR nN X ρ φ) _
      refine qr_eq1 (tgt := 72) hC rfl (by decide) rfl (fun hc => ?_) (fun hc => ?_)
      · rw [if_pos hc] at hs
        exact qr_w (a := [.retAddr 0, .int x1, .int x2]) ⟨Or.inl rfl, Or.inr rfl, Or.inr rfl, trivial⟩ (to_bytesTogether_L72_n F (d + 1) nR nN X ρ (by omega) φ x1 x2 _ hs)
      · rw [if_neg hc] at hs
        refine qr_s hC (n := 2) (pc' := 45) (ls' := [.ref 4, .int x1, .int (x2 + 1)]) (st' := []) (h' := ct nR nN X ρ φ) rfl ?_
        exact ih φ x1 (x2 + 1) _ hs
set_option maxRecDepth 100000 in
theorem to_bytesTogether_n (F d : Nat) (nR nN : Nat) (X : List (Nat × Nat)) (ρ : Nat → Nat → Option Nat) (φ : qm_F) (x1 : Int32) (r : Int32) (hd : 1 ≤ d) (hs : to_bytesTogether F nR nN φ x1 = some r) : qm_Rn d 256 0 [.ref 4, .int x1, .retAddr 0] [] (ct nR nN X ρ φ) (some (.int r), ct nR nN X ρ φ) := by
  obtain ⟨d, rfl⟩ : ∃ e, d = e + 1 := ⟨d - 1, by omega⟩
  have hC := qC_256
  unfold to_bytesTogether at hs
  refine qr_s hC (n := 5) (pc' := 7) (ls' := [.ref 4, .int x1, .int x1]) (st' := [.int x1, .ref 5]) (h' := ct nR nN X ρ φ) rfl ?_
  obtain ⟨hq, hs⟩ := qg_s hs
  refine qr_ia (v := φ 5 x1.toNatClampNeg) hC rfl rfl hq rfl ?_
  obtain ⟨y1, hy, hs⟩ := qb1_s hs
  refine qr_c (j := 262) (as := [.int (φ 5 x1.toNatClampNeg)]) (rest := []) (v := some (.int y1)) (h1 := ct nR nN X ρ φ) hC rfl rfl qC_262 rfl rfl (to_isLetter_n F d nR nN X ρ φ (φ 5 x1.toNatClampNeg) _ (by omega) hy) ?_
  show qm_Rn (d + 1) 256 11 [.ref 4, .int x1, .int x1] [.int y1] (ct nR nN X ρ φ) _
  refine qr_eq1 (tgt := 45) hC rfl (by decide) rfl (fun hc => ?_) (fun hc => ?_)
  · rw [if_pos hc] at hs
    exact to_bytesTogether_L45_n F (d + 1) nR nN X ρ (by omega) F φ x1 x1 _ hs
  · rw [if_neg hc] at hs
    exact to_bytesTogether_L14_n F (d + 1) nR nN X ρ (by omega) F φ x1 x1 _ hs
/-- SketchFiller$Tokens.isKeyword(III)Z -/
def to_isKeyword_L3 (F : Nat) (nR nN : Nat) : Nat → Nat → qm_F → Int32 → Int32 → Int32 → Int32 → Int32 → Option Int32
  | 0, _, _, _, _, _, _, _ => none
  | n + 1, t, φ, x1, x2, x3, x4, s0 =>
    if t = 0 then
      if 6 ≤ x4 then
        some 1
      else
        if x2 ≤ x4 then
          to_isKeyword_L3 F nR nN n 1 φ x1 x2 x3 x4 0
        else
          qg (decide (nN < 2147483648)) <|
          if (Int32.ofNat nN) ≤ (x1 + x4) then
            to_isKeyword_L3 F nR nN n 1 φ x1 x2 x3 x4 0
          else
            qg (qm_in (x1 + x4) nN) <|
            to_isKeyword_L3 F nR nN n 2 φ x1 x2 x3 x4 (φ 5 ((x1 + x4).toNatClampNeg))
    else
    if t = 1 then
      to_isKeyword_L3 F nR nN n 2 φ x1 x2 x3 x4 32
    else
    qlet (78) fun y1 =>
    if y1 ≤ (x3 + x4) then
      some 0
    else
      qg (qm_in (x3 + x4) (qm_str 1000000).length) <|
      qlet (Int32.ofNat ((qm_str 1000000).getD (x3 + x4).toNatClampNeg 0)) fun y2 =>
      if s0 = y2 then
        to_isKeyword_L3 F nR nN n 0 φ x1 x2 x3 (x4 + 1) 0
      else
        some 0
def to_isKeyword (F : Nat) (nR nN : Nat) (φ : qm_F) (x1 : Int32) (x2 : Int32) (x3 : Int32) : Option Int32 :=
  to_isKeyword_L3 F nR nN F 0 φ x1 x2 x3 0 0
set_option maxRecDepth 100000 in
theorem to_isKeyword_L3_n0 (F d : Nat) (nR nN : Nat) (X : List (Nat × Nat)) (ρ : Nat → Nat → Option Nat) (hd : 9 ≤ d) : ∀ (n t : Nat) (φ : qm_F) (x1 : Int32) (x2 : Int32) (x3 : Int32) (x4 : Int32) (s0 : Int32) (r : Int32), to_isKeyword_L3 F nR nN n t φ x1 x2 x3 x4 s0 = some r → (t = 0 → qm_Rn d 259 3 [.ref 4, .int x1, .int x2, .int x3, .int x4, .retAddr 0] [] (ct nR nN X ρ φ) (some (.int r), ct nR nN X ρ φ)) ∧ (t = 1 → qm_Rn d 259 40 [.ref 4, .int x1, .int x2, .int x3, .int x4, .retAddr 0] [] (ct nR nN X ρ φ) (some (.int r), ct nR nN X ρ φ)) ∧ (t ≠ 0 ∧ t ≠ 1 → qm_Rn d 259 42 [.ref 4, .int x1, .int x2, .int x3, .int x4, .retAddr 0] [.int s0] (ct nR nN X ρ φ) (some (.int r), ct nR nN X ρ φ)) := by
  obtain ⟨d, rfl⟩ : ∃ e, d = e + 1 := ⟨d - 1, by omega⟩
  have hC := qC_259
  intro n
  induction n with
  | zero => intro t φ x1 x2 x3 x4 s0 r hs; simp [to_isKeyword_L3] at hs
  | succ n ihh =>
    intro t φ x1 x2 x3 x4 s0 r hs
    rw [to_isKeyword_L3] at hs
    have ih0 : ∀ (φ : qm_F) (x1 : Int32) (x2 : Int32) (x3 : Int32) (x4 : Int32) (s0 : Int32) (r : Int32), to_isKeyword_L3 F nR nN n 0 φ x1 x2 x3 x4 s0 = some r → _ := fun φ x1 x2 x3 x4 s0 r q => (ihh 0 φ x1 x2 x3 x4 s0 r q).1 rfl
    have ih1 : ∀ (φ : qm_F) (x1 : Int32) (x2 : Int32) (x3 : Int32) (x4 : Int32) (s0 : Int32) (r : Int32), to_isKeyword_L3 F nR nN n 1 φ x1 x2 x3 x4 s0 = some r → _ := fun φ x1 x2 x3 x4 s0 r q => (ihh 1 φ x1 x2 x3 x4 s0 r q).2.1 rfl
    have ih2 : ∀ (φ : qm_F) (x1 : Int32) (x2 : Int32) (x3 : Int32) (x4 : Int32) (s0 : Int32) (r : Int32), to_isKeyword_L3 F nR nN n 2 φ x1 x2 x3 x4 s0 = some r → _ := fun φ x1 x2 x3 x4 s0 r q => (ihh 2 φ x1 x2 x3 x4 s0 r q).2.2 ⟨by decide, by decide⟩
    refine ⟨fun ht => ?_, fun ht => ?_, fun ht => ?_⟩
    · subst ht
      rw [if_pos rfl] at hs
      refine qr_s hC (n := 2) (pc' := 7) (ls' := [.ref 4, .int x1, .int x2, .int x3, .int x4, .retAddr 0]) (st' := [.int 6, .int x4]) (h' := ct nR nN X ρ φ) rfl ?_
      refine qr_ge2 (tgt := 78) hC rfl (by decide) rfl (fun hc => ?_) (fun hc => ?_)
      · rw [if_pos hc] at hs
        refine qr_s hC (n := 1) (pc' := 79) (ls' := [.ref 4, .int x1, .int x2, .int x3, .int x4, .retAddr 0]) (st' := [.int 1]) (h' := ct nR nN X ρ φ) rfl ?_
        have hs := Option.some.inj hs
        subst hs
        exact qr_r hC rfl rfl
      · rw [if_neg hc] at hs
        refine qr_s hC (n := 2) (pc' := 13) (ls' := [.ref 4, .int x1, .int x2, .int x3, .int x4, .retAddr 0]) (st' := [.int x2, .int x4]) (h' := ct nR nN X ρ φ) rfl ?_
        refine qr_ge2 (tgt := 40) hC rfl (by decide) rfl (fun hc => ?_) (fun hc => ?_)
        · rw [if_pos hc] at hs
          exact (ih1 φ x1 x2 x3 x4 0 _ hs)
        · rw [if_neg hc] at hs
          refine qr_s hC (n := 5) (pc' := 24) (ls' := [.ref 4, .int x1, .int x2, .int x3, .int x4, .retAddr 0]) (st' := [.ref 5, .int (x1 + x4)]) (h' := ct nR nN X ρ φ) rfl ?_
          obtain ⟨hq, hs⟩ := qg_s hs
          refine qr_al hC rfl rfl hq ?_
          refine qr_ge2 (tgt := 40) hC rfl (by decide) rfl (fun hc => ?_) (fun hc => ?_)
          · rw [if_pos hc] at hs
            exact (ih1 φ x1 x2 x3 x4 0 _ hs)
          · rw [if_neg hc] at hs
            refine qr_s hC (n := 5) (pc' := 36) (ls' := [.ref 4, .int x1, .int x2, .int x3, .int x4, .retAddr 0]) (st' := [.int (x1 + x4), .ref 5]) (h' := ct nR nN X ρ φ) rfl ?_
            obtain ⟨hq, hs⟩ := qg_s hs
            refine qr_ia (v := φ 5 ((x1 + x4).toNatClampNeg)) hC rfl rfl hq rfl ?_
            refine qr_s hC (n := 1) (pc' := 42) (ls' := [.ref 4, .int x1, .int x2, .int x3, .int x4, .retAddr 0]) (st' := [.int (φ 5 ((x1 + x4).toNatClampNeg))]) (h' := ct nR nN X ρ φ) rfl ?_
            exact (ih2 φ x1 x2 x3 x4 (φ 5 ((x1 + x4).toNatClampNeg)) _ hs)
    · subst ht
      rw [if_neg (by decide)] at hs
      rw [if_pos rfl] at hs
      refine qr_s hC (n := 1) (pc' := 42) (ls' := [.ref 4, .int x1, .int x2, .int x3, .int x4, .retAddr 0]) (st' := [.int 32]) (h' := ct nR nN X ρ φ) rfl ?_
      exact (ih2 φ x1 x2 x3 x4 32 _ hs)
    · obtain ⟨ht0, ht1⟩ := ht
      rw [if_neg ht0] at hs
      rw [if_neg ht1] at hs
      refine qr_s hC (n := 5) (pc' := 50) (ls' := [.ref 4, .int x1, .int x2, .int x3, .int x4, .int s0]) (st' := [.ref 1000000, .int (x3 + x4)]) (h' := ct nR nN X ρ φ) rfl ?_
      obtain ⟨y1, hy, hs⟩ := qlet_s hs
      refine qr_p (j := 284) (as := [.ref 1000000]) (rest := [.int (x3 + x4)]) (v := some (.int y1)) (h1 := ct nR nN X ρ φ) hC rfl rfl rfl rfl (by omega) (by rw [← hy]; rfl) ?_
      show qm_Rn (d + 1) 259 _ [.ref 4, .int x1, .int x2, .int x3, .int x4, .int s0] [.int y1, .int (x3 + x4)] (ct nR nN X ρ φ) _
      refine qr_ge2 (tgt := 70) hC rfl (by decide) rfl (fun hc => ?_) (fun hc => ?_)
      · rw [if_pos hc] at hs
        refine qr_s hC (n := 1) (pc' := 71) (ls' := [.ref 4, .int x1, .int x2, .int x3, .int x4, .int s0]) (st' := [.int 0]) (h' := ct nR nN X ρ φ) rfl ?_
        have hs := Option.some.inj hs
        subst hs
        exact qr_r hC rfl rfl
      · rw [if_neg hc] at hs
        refine qr_s hC (n := 5) (pc' := 64) (ls' := [.ref 4, .int x1, .int x2, .int x3, .int x4, .int s0]) (st' := [.int (x3 + x4), .ref 1000000, .int s0]) (h' := ct nR nN X ρ φ) rfl ?_
        obtain ⟨hq, hs⟩ := qg_s hs
        obtain ⟨y2, hy, hs⟩ := qlet_s hs
        refine qr_p (j := 285) (as := [.ref 1000000, .int (x3 + x4)]) (rest := [.int s0]) (v := some (.int y2)) (h1 := ct nR nN X ρ φ) hC rfl rfl rfl rfl (by omega) (by rw [← hy]; exact qp_ch hq) ?_
        show qm_Rn (d + 1) 259 _ [.ref 4, .int x1, .int x2, .int x3, .int x4, .int s0] [.int y2, .int s0] (ct nR nN X ρ φ) _
        refine qr_eq2 (tgt := 72) hC rfl (by decide) rfl (fun hc => ?_) (fun hc => ?_)
        · rw [if_pos hc] at hs
          refine qr_s hC (n := 2) (pc' := 3) (ls' := [.ref 4, .int x1, .int x2, .int x3, .int (x4 + 1), .int s0]) (st' := []) (h' := ct nR nN X ρ φ) rfl ?_
          exact qr_w (a := [.ref 4, .int x1, .int x2, .int x3, .int (x4 + 1), .retAddr 0]) ⟨Or.inr rfl, Or.inr rfl, Or.inr rfl, Or.inr rfl, Or.inr rfl, Or.inl rfl, trivial⟩ (ih0 φ x1 x2 x3 (x4 + 1) 0 _ hs)
        · rw [if_neg hc] at hs
          refine qr_s hC (n := 1) (pc' := 71) (ls' := [.ref 4, .int x1, .int x2, .int x3, .int x4, .int s0]) (st' := [.int 0]) (h' := ct nR nN X ρ φ) rfl ?_
          have hs := Option.some.inj hs
          subst hs
          exact qr_r hC rfl rfl
theorem to_isKeyword_L3_n_t0 (F d : Nat) (nR nN : Nat) (X : List (Nat × Nat)) (ρ : Nat → Nat → Option Nat) (hd : 9 ≤ d) (n : Nat) (φ : qm_F) (x1 : Int32) (x2 : Int32) (x3 : Int32) (x4 : Int32) (s0 : Int32) (r : Int32) (hs : to_isKeyword_L3 F nR nN n 0 φ x1 x2 x3 x4 s0 = some r) : qm_Rn d 259 3 [.ref 4, .int x1, .int x2, .int x3, .int x4, .retAddr 0] [] (ct nR nN X ρ φ) (some (.int r), ct nR nN X ρ φ) := (to_isKeyword_L3_n0 F d nR nN X ρ hd n 0 φ x1 x2 x3 x4 s0 r hs).1 rfl
theorem to_isKeyword_L3_n_t1 (F d : Nat) (nR nN : Nat) (X : List (Nat × Nat)) (ρ : Nat → Nat → Option Nat) (hd : 9 ≤ d) (n : Nat) (φ : qm_F) (x1 : Int32) (x2 : Int32) (x3 : Int32) (x4 : Int32) (s0 : Int32) (r : Int32) (hs : to_isKeyword_L3 F nR nN n 1 φ x1 x2 x3 x4 s0 = some r) : qm_Rn d 259 40 [.ref 4, .int x1, .int x2, .int x3, .int x4, .retAddr 0] [] (ct nR nN X ρ φ) (some (.int r), ct nR nN X ρ φ) := (to_isKeyword_L3_n0 F d nR nN X ρ hd n 1 φ x1 x2 x3 x4 s0 r hs).2.1 rfl
theorem to_isKeyword_L3_n_t2 (F d : Nat) (nR nN : Nat) (X : List (Nat × Nat)) (ρ : Nat → Nat → Option Nat) (hd : 9 ≤ d) (n : Nat) (φ : qm_F) (x1 : Int32) (x2 : Int32) (x3 : Int32) (x4 : Int32) (s0 : Int32) (r : Int32) (hs : to_isKeyword_L3 F nR nN n 2 φ x1 x2 x3 x4 s0 = some r) : qm_Rn d 259 42 [.ref 4, .int x1, .int x2, .int x3, .int x4, .retAddr 0] [.int s0] (ct nR nN X ρ φ) (some (.int r), ct nR nN X ρ φ) := (to_isKeyword_L3_n0 F d nR nN X ρ hd n 2 φ x1 x2 x3 x4 s0 r hs).2.2 ⟨by decide, by decide⟩
set_option maxRecDepth 100000 in
theorem to_isKeyword_n (F d : Nat) (nR nN : Nat) (X : List (Nat × Nat)) (ρ : Nat → Nat → Option Nat) (φ : qm_F) (x1 : Int32) (x2 : Int32) (x3 : Int32) (r : Int32) (hd : 9 ≤ d) (hs : to_isKeyword F nR nN φ x1 x2 x3 = some r) : qm_Rn d 259 0 [.ref 4, .int x1, .int x2, .int x3, .retAddr 0, .retAddr 0] [] (ct nR nN X ρ φ) (some (.int r), ct nR nN X ρ φ) := by
  obtain ⟨d, rfl⟩ : ∃ e, d = e + 1 := ⟨d - 1, by omega⟩
  have hC := qC_259
  unfold to_isKeyword at hs
  refine qr_s hC (n := 2) (pc' := 3) (ls' := [.ref 4, .int x1, .int x2, .int x3, .int 0, .retAddr 0]) (st' := []) (h' := ct nR nN X ρ φ) rfl ?_
  exact (to_isKeyword_L3_n_t0 F (d + 1) nR nN X ρ (by omega) F φ x1 x2 x3 0 0 _ hs)
/-- SketchFiller$Tokens.wordAt(II)I -/
def to_wordAt_L12 (F : Nat) (nR nN : Nat) : Nat → qm_F → Int32 → Int32 → Int32 → Int32 → Option Int32
  | 0, _, _, _, _, _ => none
  | n + 1, φ, x1, x2, x3, x4 =>
    if x3 ≤ x4 then
      some 97
    else
      qb1 (to_isKeyword F nR nN φ x1 x2 (x4 * 6)) fun y1 =>
      if y1 = 0 then
        to_wordAt_L12 F nR nN n φ x1 x2 x3 (x4 + 1)
      else
        some (128 + x4)
def to_wordAt (F : Nat) (nR nN : Nat) (φ : qm_F) (x1 : Int32) (x2 : Int32) : Option Int32 :=
  qlet (78) fun y1 =>
  to_wordAt_L12 F nR nN F φ x1 x2 (y1 / 6) 0
set_option maxRecDepth 100000 in
theorem to_wordAt_L12_n (F d : Nat) (nR nN : Nat) (X : List (Nat × Nat)) (ρ : Nat → Nat → Option Nat) (hd : 10 ≤ d) : ∀ (n : Nat) (φ : qm_F) (x1 : Int32) (x2 : Int32) (x3 : Int32) (x4 : Int32) (r : Int32), to_wordAt_L12 F nR nN n φ x1 x2 x3 x4 = some r → qm_Rn d 258 12 [.ref 4, .int x1, .int x2, .int x3, .int x4] [] (ct nR nN X ρ φ) (some (.int r), ct nR nN X ρ φ) := by
  obtain ⟨d, rfl⟩ : ∃ e, d = e + 1 := ⟨d - 1, by omega⟩
  have hC := qC_258
  intro n
  induction n with
  | zero => intro φ x1 x2 x3 x4 r hs; simp [to_wordAt_L12] at hs
  | succ n ih =>
    intro φ x1 x2 x3 x4 r hs
    rw [to_wordAt_L12] at hs
    refine qr_s hC (n := 2) (pc' := 15) (ls' := [.ref 4, .int x1, .int x2, .int x3, .int x4]) (st' := [.int x3, .int x4]) (h' := ct nR nN X ρ φ) rfl ?_
    refine qr_ge2 (tgt := 45) hC rfl (by decide) rfl (fun hc => ?_) (fun hc => ?_)
    · rw [if_pos hc] at hs
      refine qr_s hC (n := 1) (pc' := 47) (ls' := [.ref 4, .int x1, .int x2, .int x3, .int x4]) (st' := [.int 97]) (h' := ct nR nN X ρ φ) rfl ?_
      have hs := Option.some.inj hs
      subst hs
      exact qr_r hC rfl rfl
    · rw [if_neg hc] at hs
      refine qr_s hC (n := 6) (pc' := 26) (ls' := [.ref 4, .int x1, .int x2, .int x3, .int x4]) (st' := [.int (x4 * 6), .int x2, .int x1, .ref 4]) (h' := ct nR nN X ρ φ) rfl ?_
      obtain ⟨y1, hy, hs⟩ := qb1_s hs
      refine qr_c (j := 259) (as := [.ref 4, .int x1, .int x2, .int (x4 * 6)]) (rest := []) (v := some (.int y1)) (h1 := ct nR nN X ρ φ) hC rfl rfl qC_259 rfl rfl (to_isKeyword_n F d nR nN X ρ φ x1 x2 (x4 * 6) _ (by omega) hy) ?_
      show qm_Rn (d + 1) 258 29 [.ref 4, .int x1, .int x2, .int x3, .int x4] [.int y1] (ct nR nN X ρ φ) _
      refine qr_eq1 (tgt := 39) hC rfl (by decide) rfl (fun hc => ?_) (fun hc => ?_)
      · rw [if_pos hc] at hs
        refine qr_s hC (n := 2) (pc' := 12) (ls' := [.ref 4, .int x1, .int x2, .int x3, .int (x4 + 1)]) (st' := []) (h' := ct nR nN X ρ φ) rfl ?_
        exact ih φ x1 x2 x3 (x4 + 1) _ hs
      · rw [if_neg hc] at hs
        refine qr_s hC (n := 3) (pc' := 38) (ls' := [.ref 4, .int x1, .int x2, .int x3, .int x4]) (st' := [.int (128 + x4)]) (h' := ct nR nN X ρ φ) rfl ?_
        have hs := Option.some.inj hs
        subst hs
        exact qr_r hC rfl rfl
set_option maxRecDepth 100000 in
theorem to_wordAt_n (F d : Nat) (nR nN : Nat) (X : List (Nat × Nat)) (ρ : Nat → Nat → Option Nat) (φ : qm_F) (x1 : Int32) (x2 : Int32) (r : Int32) (hd : 10 ≤ d) (hs : to_wordAt F nR nN φ x1 x2 = some r) : qm_Rn d 258 0 [.ref 4, .int x1, .int x2, .retAddr 0, .retAddr 0] [] (ct nR nN X ρ φ) (some (.int r), ct nR nN X ρ φ) := by
  obtain ⟨d, rfl⟩ : ∃ e, d = e + 1 := ⟨d - 1, by omega⟩
  have hC := qC_258
  unfold to_wordAt at hs
  refine qr_s hC (n := 1) (pc' := 2) (ls' := [.ref 4, .int x1, .int x2, .retAddr 0, .retAddr 0]) (st' := [.ref 1000000]) (h' := ct nR nN X ρ φ) rfl ?_
  obtain ⟨y1, hy, hs⟩ := qlet_s hs
  refine qr_p (j := 284) (as := [.ref 1000000]) (rest := []) (v := some (.int y1)) (h1 := ct nR nN X ρ φ) hC rfl rfl rfl rfl (by omega) (by rw [← hy]; rfl) ?_
  show qm_Rn (d + 1) 258 _ [.ref 4, .int x1, .int x2, .retAddr 0, .retAddr 0] [.int y1] (ct nR nN X ρ φ) _
  refine qr_s hC (n := 1) (pc' := 7) (ls' := [.ref 4, .int x1, .int x2, .retAddr 0, .retAddr 0]) (st' := [.int 6, .int y1]) (h' := ct nR nN X ρ φ) rfl ?_
  refine qr_dv hC rfl (by decide) ?_
  refine qr_s hC (n := 3) (pc' := 12) (ls' := [.ref 4, .int x1, .int x2, .int (y1 / 6), .int 0]) (st' := []) (h' := ct nR nN X ρ φ) rfl ?_
  exact to_wordAt_L12_n F (d + 1) nR nN X ρ (by omega) F φ x1 x2 (y1 / 6) 0 _ hs
/-- SketchFiller$Tokens.kindAt(II)I -/
def to_kindAt (F : Nat) (nR nN : Nat) (φ : qm_F) (x1 : Int32) (x2 : Int32) : Option Int32 :=
  qg (qm_in x1 nN) <|
  qb1 (to_isLetter F nR nN φ (φ 5 x1.toNatClampNeg)) fun y1 =>
  if y1 = 0 then
    qb1 (to_isDigit F nR nN φ (φ 5 x1.toNatClampNeg)) fun y2 =>
    if y2 = 0 then
      qlet (qm_ixF ((Int32.toUInt32 (φ 5 x1.toNatClampNeg) % 65536).toInt32) (qm_str 1000002) 0) fun y3 =>
      if y3 < 0 then
        some 1
      else
        some (φ 5 x1.toNatClampNeg)
    else
      if x2 ≤ 5 then
        some 48
      else
        some 1
  else
    if x2 ≤ 6 then
      qb1 (to_wordAt F nR nN φ x1 x2) fun y4 =>
      some y4
    else
      some 1
set_option maxRecDepth 100000 in
theorem to_kindAt_n (F d : Nat) (nR nN : Nat) (X : List (Nat × Nat)) (ρ : Nat → Nat → Option Nat) (φ : qm_F) (x1 : Int32) (x2 : Int32) (r : Int32) (hd : 11 ≤ d) (hs : to_kindAt F nR nN φ x1 x2 = some r) : qm_Rn d 257 0 [.ref 4, .int x1, .int x2, .retAddr 0] [] (ct nR nN X ρ φ) (some (.int r), ct nR nN X ρ φ) := by
  obtain ⟨d, rfl⟩ : ∃ e, d = e + 1 := ⟨d - 1, by omega⟩
  have hC := qC_257
  unfold to_kindAt at hs
  refine qr_s hC (n := 3) (pc' := 5) (ls' := [.ref 4, .int x1, .int x2, .retAddr 0]) (st' := [.int x1, .ref 5]) (h' := ct nR nN X ρ φ) rfl ?_
  obtain ⟨hq, hs⟩ := qg_s hs
  refine qr_ia (v := φ 5 x1.toNatClampNeg) hC rfl rfl hq rfl ?_
  refine qr_s hC (n := 2) (pc' := 8) (ls' := [.ref 4, .int x1, .int x2, .int (φ 5 x1.toNatClampNeg)]) (st' := [.int (φ 5 x1.toNatClampNeg)]) (h' := ct nR nN X ρ φ) rfl ?_
  obtain ⟨y1, hy, hs⟩ := qb1_s hs
  refine qr_c (j := 262) (as := [.int (φ 5 x1.toNatClampNeg)]) (rest := []) (v := some (.int y1)) (h1 := ct nR nN X ρ φ) hC rfl rfl qC_262 rfl rfl (to_isLetter_n F d nR nN X ρ φ (φ 5 x1.toNatClampNeg) _ (by omega) hy) ?_
  show qm_Rn (d + 1) 257 11 [.ref 4, .int x1, .int x2, .int (φ 5 x1.toNatClampNeg)] [.int y1] (ct nR nN X ρ φ) _
  refine qr_eq1 (tgt := 31) hC rfl (by decide) rfl (fun hc => ?_) (fun hc => ?_)
  · rw [if_pos hc] at hs
    refine qr_s hC (n := 1) (pc' := 32) (ls' := [.ref 4, .int x1, .int x2, .int (φ 5 x1.toNatClampNeg)]) (st' := [.int (φ 5 x1.toNatClampNeg)]) (h' := ct nR nN X ρ φ) rfl ?_
    obtain ⟨y2, hy, hs⟩ := qb1_s hs
    refine qr_c (j := 263) (as := [.int (φ 5 x1.toNatClampNeg)]) (rest := []) (v := some (.int y2)) (h1 := ct nR nN X ρ φ) hC rfl rfl qC_263 rfl rfl (to_isDigit_n F d nR nN X ρ φ (φ 5 x1.toNatClampNeg) _ (by omega) hy) ?_
    show qm_Rn (d + 1) 257 35 [.ref 4, .int x1, .int x2, .int (φ 5 x1.toNatClampNeg)] [.int y2] (ct nR nN X ρ φ) _
    refine qr_eq1 (tgt := 50) hC rfl (by decide) rfl (fun hc => ?_) (fun hc => ?_)
    · rw [if_pos hc] at hs
      refine qr_s hC (n := 3) (pc' := 54) (ls' := [.ref 4, .int x1, .int x2, .int (φ 5 x1.toNatClampNeg)]) (st' := [.int ((Int32.toUInt32 (φ 5 x1.toNatClampNeg) % 65536).toInt32), .ref 1000002]) (h' := ct nR nN X ρ φ) rfl ?_
      obtain ⟨y3, hy, hs⟩ := qlet_s hs
      refine qr_p (j := 286) (as := [.ref 1000002, .int ((Int32.toUInt32 (φ 5 x1.toNatClampNeg) % 65536).toInt32)]) (rest := []) (v := some (.int y3)) (h1 := ct nR nN X ρ φ) hC rfl rfl rfl rfl (by omega) (by rw [← hy]; rfl) ?_
      show qm_Rn (d + 1) 257 _ [.ref 4, .int x1, .int x2, .int (φ 5 x1.toNatClampNeg)] [.int y3] (ct nR nN X ρ φ) _
      refine qr_lt1 (tgt := 64) hC rfl (by decide) rfl (fun hc => ?_) (fun hc => ?_)
      · rw [if_pos hc] at hs
        refine qr_s hC (n := 1) (pc' := 65) (ls' := [.ref 4, .int x1, .int x2, .int (φ 5 x1.toNatClampNeg)]) (st' := [.int 1]) (h' := ct nR nN X ρ φ) rfl ?_
        have hs := Option.some.inj hs
        subst hs
        exact qr_r hC rfl rfl
      · rw [if_neg hc] at hs
        refine qr_s hC (n := 2) (pc' := 65) (ls' := [.ref 4, .int x1, .int x2, .int (φ 5 x1.toNatClampNeg)]) (st' := [.int (φ 5 x1.toNatClampNeg)]) (h' := ct nR nN X ρ φ) rfl ?_
        have hs := Option.some.inj hs
        subst hs
        exact qr_r hC rfl rfl
    · rw [if_neg hc] at hs
      refine qr_s hC (n := 2) (pc' := 40) (ls' := [.ref 4, .int x1, .int x2, .int (φ 5 x1.toNatClampNeg)]) (st' := [.int 5, .int x2]) (h' := ct nR nN X ρ φ) rfl ?_
      refine qr_le2 (tgt := 47) hC rfl (by decide) rfl (fun hc => ?_) (fun hc => ?_)
      · rw [if_pos hc] at hs
        refine qr_s hC (n := 1) (pc' := 49) (ls' := [.ref 4, .int x1, .int x2, .int (φ 5 x1.toNatClampNeg)]) (st' := [.int 48]) (h' := ct nR nN X ρ φ) rfl ?_
        have hs := Option.some.inj hs
        subst hs
        exact qr_r hC rfl rfl
      · rw [if_neg hc] at hs
        refine qr_s hC (n := 2) (pc' := 49) (ls' := [.ref 4, .int x1, .int x2, .int (φ 5 x1.toNatClampNeg)]) (st' := [.int 1]) (h' := ct nR nN X ρ φ) rfl ?_
        have hs := Option.some.inj hs
        subst hs
        exact qr_r hC rfl rfl
  · rw [if_neg hc] at hs
    refine qr_s hC (n := 2) (pc' := 17) (ls' := [.ref 4, .int x1, .int x2, .int (φ 5 x1.toNatClampNeg)]) (st' := [.int 6, .int x2]) (h' := ct nR nN X ρ φ) rfl ?_
    refine qr_le2 (tgt := 24) hC rfl (by decide) rfl (fun hc => ?_) (fun hc => ?_)
    · rw [if_pos hc] at hs
      refine qr_s hC (n := 3) (pc' := 27) (ls' := [.ref 4, .int x1, .int x2, .int (φ 5 x1.toNatClampNeg)]) (st' := [.int x2, .int x1, .ref 4]) (h' := ct nR nN X ρ φ) rfl ?_
      obtain ⟨y4, hy, hs⟩ := qb1_s hs
      refine qr_c (j := 258) (as := [.ref 4, .int x1, .int x2]) (rest := []) (v := some (.int y4)) (h1 := ct nR nN X ρ φ) hC rfl rfl qC_258 rfl rfl (to_wordAt_n F d nR nN X ρ φ x1 x2 _ (by omega) hy) ?_
      show qm_Rn (d + 1) 257 30 [.ref 4, .int x1, .int x2, .int (φ 5 x1.toNatClampNeg)] [.int y4] (ct nR nN X ρ φ) _
      have hs := Option.some.inj hs
      subst hs
      exact qr_r hC rfl rfl
    · rw [if_neg hc] at hs
      refine qr_s hC (n := 2) (pc' := 30) (ls' := [.ref 4, .int x1, .int x2, .int (φ 5 x1.toNatClampNeg)]) (st' := [.int 1]) (h' := ct nR nN X ρ φ) rfl ?_
      have hs := Option.some.inj hs
      subst hs
      exact qr_r hC rfl rfl
/-- SketchFiller$Tokens.numberAt(III)I -/
def to_numberAt_L50 (F : Nat) (nR nN : Nat) : Nat → qm_F → Int32 → Int32 → Int32 → Int32 → Int32 → Int32 → Option Int32
  | 0, _, _, _, _, _, _, _ => none
  | n + 1, φ, x2, x3, x4, x5, x6, x7 =>
    if (x2 + x3) ≤ x7 then
      some x6
    else
      qg (decide (nN < 2147483648)) <|
      if (Int32.ofNat nN) ≤ x7 then
        some x6
      else
        qg (qm_in x7 nN) <|
        to_numberAt_L50 F nR nN n φ x2 x3 x4 x5 ((x6 * x4) + ((φ 5 x7.toNatClampNeg) - x5)) (x7 + 1)
def to_numberAt_L27 (F : Nat) (nR nN : Nat) (φ : qm_F) (x1 : Int32) (x2 : Int32) (x3 : Int32) (s0 : Int32) : Option Int32 :=
  if ¬ x1 = 48 then
    to_numberAt_L50 F nR nN F φ x2 x3 s0 96 0 x2
  else
    to_numberAt_L50 F nR nN F φ x2 x3 s0 48 0 x2
def to_numberAt_L14 (F : Nat) (nR nN : Nat) (φ : qm_F) (x1 : Int32) (x2 : Int32) (x3 : Int32) : Option Int32 :=
  if ¬ x1 = 48 then
    to_numberAt_L27 F nR nN φ x1 x2 x3 27
  else
    to_numberAt_L27 F nR nN φ x1 x2 x3 10
def to_numberAt (F : Nat) (nR nN : Nat) (φ : qm_F) (x1 : Int32) (x2 : Int32) (x3 : Int32) : Option Int32 :=
  if x1 = 48 then
    to_numberAt_L14 F nR nN φ x1 x2 x3
  else
    if x1 = 97 then
      to_numberAt_L14 F nR nN φ x1 x2 x3
    else
      some 0
set_option maxRecDepth 100000 in
theorem to_numberAt_L50_n (F d : Nat) (nR nN : Nat) (X : List (Nat × Nat)) (ρ : Nat → Nat → Option Nat) (hd : 0 ≤ d) : ∀ (n : Nat) (φ : qm_F) (x2 : Int32) (x3 : Int32) (x4 : Int32) (x5 : Int32) (x6 : Int32) (x7 : Int32) (r : Int32), to_numberAt_L50 F nR nN n φ x2 x3 x4 x5 x6 x7 = some r → qm_Rn d 261 50 [.ref 4, .retAddr 0, .int x2, .int x3, .int x4, .int x5, .int x6, .int x7] [] (ct nR nN X ρ φ) (some (.int r), ct nR nN X ρ φ) := by
  have hC := qC_261
  intro n
  induction n with
  | zero => intro φ x2 x3 x4 x5 x6 x7 r hs; simp [to_numberAt_L50] at hs
  | succ n ih =>
    intro φ x2 x3 x4 x5 x6 x7 r hs
    rw [to_numberAt_L50] at hs
    refine qr_s hC (n := 4) (pc' := 55) (ls' := [.ref 4, .retAddr 0, .int x2, .int x3, .int x4, .int x5, .int x6, .int x7]) (st' := [.int (x2 + x3), .int x7]) (h' := ct nR nN X ρ φ) rfl ?_
    refine qr_ge2 (tgt := 92) hC rfl (by decide) rfl (fun hc => ?_) (fun hc => ?_)
    · rw [if_pos hc] at hs
      refine qr_s hC (n := 1) (pc' := 94) (ls' := [.ref 4, .retAddr 0, .int x2, .int x3, .int x4, .int x5, .int x6, .int x7]) (st' := [.int x6]) (h' := ct nR nN X ρ φ) rfl ?_
      have hs := Option.some.inj hs
      subst hs
      exact qr_r hC rfl rfl
    · rw [if_neg hc] at hs
      refine qr_s hC (n := 3) (pc' := 64) (ls' := [.ref 4, .retAddr 0, .int x2, .int x3, .int x4, .int x5, .int x6, .int x7]) (st' := [.ref 5, .int x7]) (h' := ct nR nN X ρ φ) rfl ?_
      obtain ⟨hq, hs⟩ := qg_s hs
      refine qr_al hC rfl rfl hq ?_
      refine qr_ge2 (tgt := 92) hC rfl (by decide) rfl (fun hc => ?_) (fun hc => ?_)
      · rw [if_pos hc] at hs
        refine qr_s hC (n := 1) (pc' := 94) (ls' := [.ref 4, .retAddr 0, .int x2, .int x3, .int x4, .int x5, .int x6, .int x7]) (st' := [.int x6]) (h' := ct nR nN X ρ φ) rfl ?_
        have hs := Option.some.inj hs
        subst hs
        exact qr_r hC rfl rfl
      · rw [if_neg hc] at hs
        refine qr_s hC (n := 6) (pc' := 79) (ls' := [.ref 4, .retAddr 0, .int x2, .int x3, .int x4, .int x5, .int x6, .int x7]) (st' := [.int x7, .ref 5, .int (x6 * x4)]) (h' := ct nR nN X ρ φ) rfl ?_
        obtain ⟨hq, hs⟩ := qg_s hs
        refine qr_ia (v := φ 5 x7.toNatClampNeg) hC rfl rfl hq rfl ?_
        refine qr_s hC (n := 6) (pc' := 50) (ls' := [.ref 4, .retAddr 0, .int x2, .int x3, .int x4, .int x5, .int ((x6 * x4) + ((φ 5 x7.toNatClampNeg) - x5)), .int (x7 + 1)]) (st' := []) (h' := ct nR nN X ρ φ) rfl ?_
        exact ih φ x2 x3 x4 x5 ((x6 * x4) + ((φ 5 x7.toNatClampNeg) - x5)) (x7 + 1) _ hs
set_option maxRecDepth 100000 in
theorem to_numberAt_L27_n (F d : Nat) (nR nN : Nat) (X : List (Nat × Nat)) (ρ : Nat → Nat → Option Nat) (hd : 0 ≤ d) (φ : qm_F) (x1 : Int32) (x2 : Int32) (x3 : Int32) (s0 : Int32) (r : Int32) (hs : to_numberAt_L27 F nR nN φ x1 x2 x3 s0 = some r) : qm_Rn d 261 27 [.ref 4, .int x1, .int x2, .int x3, .retAddr 0, .retAddr 0, .retAddr 0, .retAddr 0] [.int s0] (ct nR nN X ρ φ) (some (.int r), ct nR nN X ρ φ) := by
  have hC := qC_261
  unfold to_numberAt_L27 at hs
  refine qr_s hC (n := 3) (pc' := 32) (ls' := [.ref 4, .int x1, .int x2, .int x3, .int s0, .retAddr 0, .retAddr 0, .retAddr 0]) (st' := [.int 48, .int x1]) (h' := ct nR nN X ρ φ) rfl ?_
  refine qr_ne2 (tgt := 40) hC rfl (by decide) rfl (fun hc => ?_) (fun hc => ?_)
  · rw [if_pos hc] at hs
    refine qr_s hC (n := 6) (pc' := 50) (ls' := [.ref 4, .int x1, .int x2, .int x3, .int s0, .int 96, .int 0, .int x2]) (st' := []) (h' := ct nR nN X ρ φ) rfl ?_
    exact qr_w (a := [.ref 4, .retAddr 0, .int x2, .int x3, .int s0, .int 96, .int 0, .int x2]) ⟨Or.inr rfl, Or.inl rfl, Or.inr rfl, Or.inr rfl, Or.inr rfl, Or.inr rfl, Or.inr rfl, Or.inr rfl, trivial⟩ (to_numberAt_L50_n F d nR nN X ρ (by omega) F φ x2 x3 s0 96 0 x2 _ hs)
  · rw [if_neg hc] at hs
    refine qr_s hC (n := 7) (pc' := 50) (ls' := [.ref 4, .int x1, .int x2, .int x3, .int s0, .int 48, .int 0, .int x2]) (st' := []) (h' := ct nR nN X ρ φ) rfl ?_
    exact qr_w (a := [.ref 4, .retAddr 0, .int x2, .int x3, .int s0, .int 48, .int 0, .int x2]) ⟨Or.inr rfl, Or.inl rfl, Or.inr rfl, Or.inr rfl, Or.inr rfl, Or.inr rfl, Or.inr rfl, Or.inr rfl, trivial⟩ (to_numberAt_L50_n F d nR nN X ρ (by omega) F φ x2 x3 s0 48 0 x2 _ hs)
set_option maxRecDepth 100000 in
theorem to_numberAt_L14_n (F d : Nat) (nR nN : Nat) (X : List (Nat × Nat)) (ρ : Nat → Nat → Option Nat) (hd : 0 ≤ d) (φ : qm_F) (x1 : Int32) (x2 : Int32) (x3 : Int32) (r : Int32) (hs : to_numberAt_L14 F nR nN φ x1 x2 x3 = some r) : qm_Rn d 261 14 [.ref 4, .int x1, .int x2, .int x3, .retAddr 0, .retAddr 0, .retAddr 0, .retAddr 0] [] (ct nR nN X ρ φ) (some (.int r), ct nR nN X ρ φ) := by
  have hC := qC_261
  unfold to_numberAt_L14 at hs
  refine qr_s hC (n := 2) (pc' := 17) (ls' := [.ref 4, .int x1, .int x2, .int x3, .retAddr 0, .retAddr 0, .retAddr 0, .retAddr 0]) (st' := [.int 48, .int x1]) (h' := ct nR nN X ρ φ) rfl ?_
  refine qr_ne2 (tgt := 25) hC rfl (by decide) rfl (fun hc => ?_) (fun hc => ?_)
  · rw [if_pos hc] at hs
    refine qr_s hC (n := 1) (pc' := 27) (ls' := [.ref 4, .int x1, .int x2, .int x3, .retAddr 0, .retAddr 0, .retAddr 0, .retAddr 0]) (st' := [.int 27]) (h' := ct nR nN X ρ φ) rfl ?_
    exact to_numberAt_L27_n F d nR nN X ρ (by omega) φ x1 x2 x3 27 _ hs
  · rw [if_neg hc] at hs
    refine qr_s hC (n := 2) (pc' := 27) (ls' := [.ref 4, .int x1, .int x2, .int x3, .retAddr 0, .retAddr 0, .retAddr 0, .retAddr 0]) (st' := [.int 10]) (h' := ct nR nN X ρ φ) rfl ?_
    exact to_numberAt_L27_n F d nR nN X ρ (by omega) φ x1 x2 x3 10 _ hs
set_option maxRecDepth 100000 in
theorem to_numberAt_n (F d : Nat) (nR nN : Nat) (X : List (Nat × Nat)) (ρ : Nat → Nat → Option Nat) (φ : qm_F) (x1 : Int32) (x2 : Int32) (x3 : Int32) (r : Int32) (hd : 0 ≤ d) (hs : to_numberAt F nR nN φ x1 x2 x3 = some r) : qm_Rn d 261 0 [.ref 4, .int x1, .int x2, .int x3, .retAddr 0, .retAddr 0, .retAddr 0, .retAddr 0] [] (ct nR nN X ρ φ) (some (.int r), ct nR nN X ρ φ) := by
  have hC := qC_261
  unfold to_numberAt at hs
  refine qr_s hC (n := 2) (pc' := 3) (ls' := [.ref 4, .int x1, .int x2, .int x3, .retAddr 0, .retAddr 0, .retAddr 0, .retAddr 0]) (st' := [.int 48, .int x1]) (h' := ct nR nN X ρ φ) rfl ?_
  refine qr_eq2 (tgt := 14) hC rfl (by decide) rfl (fun hc => ?_) (fun hc => ?_)
  · rw [if_pos hc] at hs
    exact to_numberAt_L14_n F d nR nN X ρ (by omega) φ x1 x2 x3 _ hs
  · rw [if_neg hc] at hs
    refine qr_s hC (n := 2) (pc' := 9) (ls' := [.ref 4, .int x1, .int x2, .int x3, .retAddr 0, .retAddr 0, .retAddr 0, .retAddr 0]) (st' := [.int 97, .int x1]) (h' := ct nR nN X ρ φ) rfl ?_
    refine qr_eq2 (tgt := 14) hC rfl (by decide) rfl (fun hc => ?_) (fun hc => ?_)
    · rw [if_pos hc] at hs
      exact to_numberAt_L14_n F d nR nN X ρ (by omega) φ x1 x2 x3 _ hs
    · rw [if_neg hc] at hs
      refine qr_s hC (n := 1) (pc' := 13) (ls' := [.ref 4, .int x1, .int x2, .int x3, .retAddr 0, .retAddr 0, .retAddr 0, .retAddr 0]) (st' := [.int 0]) (h' := ct nR nN X ρ φ) rfl ?_
      have hs := Option.some.inj hs
      subst hs
      exact qr_r hC rfl rfl
/-- SketchFiller$Tokens.add(III)V -/
def to_add (F : Nat) (nR nN : Nat) (φ : qm_F) (x1 : Int32) (x2 : Int32) (x3 : Int32) : Option qm_F :=
  qg (decide ((nN + 1) < 2147483648)) <|
  if (φ 4 5) < (Int32.ofNat (nN + 1)) then
    qg (qm_in (φ 4 5) (nN + 1)) <|
    qg (qm_in (φ 4 5) (nN + 1)) <|
    qg (qm_in (φ 4 5) (nN + 1)) <|
    qb1 (to_numberAt F nR nN (qm_u (qm_u (qm_u φ 6 ((φ 4 5).toNatClampNeg) x1) 7 ((φ 4 5).toNatClampNeg) x2) 8 ((φ 4 5).toNatClampNeg) x3) x1 x2 x3) fun y1 =>
    qg (qm_in (φ 4 5) (nN + 1)) <|
    some (qm_u (qm_u (qm_u (qm_u (qm_u φ 6 ((φ 4 5).toNatClampNeg) x1) 7 ((φ 4 5).toNatClampNeg) x2) 8 ((φ 4 5).toNatClampNeg) x3) 9 ((φ 4 5).toNatClampNeg) y1) 4 5 ((φ 4 5) + 1))
  else
    some φ
set_option maxRecDepth 100000 in
theorem to_add_n (F d : Nat) (nR nN : Nat) (X : List (Nat × Nat)) (ρ : Nat → Nat → Option Nat) (φ : qm_F) (x1 : Int32) (x2 : Int32) (x3 : Int32) (r : qm_F) (hd : 1 ≤ d) (hs : to_add F nR nN φ x1 x2 x3 = some r) : qm_Rn d 260 0 [.ref 4, .int x1, .int x2, .int x3] [] (ct nR nN X ρ φ) (none, ct nR nN X ρ r) := by
  obtain ⟨d, rfl⟩ : ∃ e, d = e + 1 := ⟨d - 1, by omega⟩
  have hC := qC_260
  unfold to_add at hs
  refine qr_s hC (n := 4) (pc' := 8) (ls' := [.ref 4, .int x1, .int x2, .int x3]) (st' := [.ref 6, .int (φ 4 5)]) (h' := ct nR nN X ρ φ) rfl ?_
  obtain ⟨hq, hs⟩ := qg_s hs
  refine qr_al hC rfl rfl hq ?_
  refine qr_lt2 (tgt := 13) hC rfl (by decide) rfl (fun hc => ?_) (fun hc => ?_)
  · rw [if_pos hc] at hs
    refine qr_s hC (n := 5) (pc' := 22) (ls' := [.ref 4, .int x1, .int x2, .int x3]) (st' := [.int x1, .int (φ 4 5), .ref 6]) (h' := ct nR nN X ρ φ) rfl ?_
    obtain ⟨hq, hs⟩ := qg_s hs
    refine qr_is (h' := ct nR nN X ρ (qm_u φ 6 ((φ 4 5).toNatClampNeg) x1)) hC rfl rfl hq rfl ?_
    refine qr_s hC (n := 5) (pc' := 32) (ls' := [.ref 4, .int x1, .int x2, .int x3]) (st' := [.int x2, .int (φ 4 5), .ref 7]) (h' := ct nR nN X ρ (qm_u φ 6 ((φ 4 5).toNatClampNeg) x1)) rfl ?_
    obtain ⟨hq, hs⟩ := qg_s hs
    refine qr_is (h' := ct nR nN X ρ (qm_u (qm_u φ 6 ((φ 4 5).toNatClampNeg) x1) 7 ((φ 4 5).toNatClampNeg) x2)) hC rfl rfl hq rfl ?_
    refine qr_s hC (n := 5) (pc' := 42) (ls' := [.ref 4, .int x1, .int x2, .int x3]) (st' := [.int x3, .int (φ 4 5), .ref 8]) (h' := ct nR nN X ρ (qm_u (qm_u φ 6 ((φ 4 5).toNatClampNeg) x1) 7 ((φ 4 5).toNatClampNeg) x2)) rfl ?_
    obtain ⟨hq, hs⟩ := qg_s hs
    refine qr_is (h' := ct nR nN X ρ (qm_u (qm_u (qm_u φ 6 ((φ 4 5).toNatClampNeg) x1) 7 ((φ 4 5).toNatClampNeg) x2) 8 ((φ 4 5).toNatClampNeg) x3)) hC rfl rfl hq rfl ?_
    refine qr_s hC (n := 8) (pc' := 55) (ls' := [.ref 4, .int x1, .int x2, .int x3]) (st' := [.int x3, .int x2, .int x1, .ref 4, .int (φ 4 5), .ref 9]) (h' := ct nR nN X ρ (qm_u (qm_u (qm_u φ 6 ((φ 4 5).toNatClampNeg) x1) 7 ((φ 4 5).toNatClampNeg) x2) 8 ((φ 4 5).toNatClampNeg) x3)) rfl ?_
    obtain ⟨y1, hy, hs⟩ := qb1_s hs
    refine qr_c (j := 261) (as := [.ref 4, .int x1, .int x2, .int x3]) (rest := [.int (φ 4 5), .ref 9]) (v := some (.int y1)) (h1 := ct nR nN X ρ (qm_u (qm_u (qm_u φ 6 ((φ 4 5).toNatClampNeg) x1) 7 ((φ 4 5).toNatClampNeg) x2) 8 ((φ 4 5).toNatClampNeg) x3)) hC rfl rfl qC_261 rfl rfl (to_numberAt_n F d nR nN X ρ (qm_u (qm_u (qm_u φ 6 ((φ 4 5).toNatClampNeg) x1) 7 ((φ 4 5).toNatClampNeg) x2) 8 ((φ 4 5).toNatClampNeg) x3) x1 x2 x3 _ (by omega) hy) ?_
    show qm_Rn (d + 1) 260 58 [.ref 4, .int x1, .int x2, .int x3] [.int y1, .int (φ 4 5), .ref 9] (ct nR nN X ρ (qm_u (qm_u (qm_u φ 6 ((φ 4 5).toNatClampNeg) x1) 7 ((φ 4 5).toNatClampNeg) x2) 8 ((φ 4 5).toNatClampNeg) x3)) _
    obtain ⟨hq, hs⟩ := qg_s hs
    refine qr_is (h' := ct nR nN X ρ (qm_u (qm_u (qm_u (qm_u φ 6 ((φ 4 5).toNatClampNeg) x1) 7 ((φ 4 5).toNatClampNeg) x2) 8 ((φ 4 5).toNatClampNeg) x3) 9 ((φ 4 5).toNatClampNeg) y1)) hC rfl rfl hq rfl ?_
    refine qr_s hC (n := 6) (pc' := 69) (ls' := [.ref 4, .int x1, .int x2, .int x3]) (st' := []) (h' := ct nR nN X ρ (qm_u (qm_u (qm_u (qm_u (qm_u φ 6 ((φ 4 5).toNatClampNeg) x1) 7 ((φ 4 5).toNatClampNeg) x2) 8 ((φ 4 5).toNatClampNeg) x3) 9 ((φ 4 5).toNatClampNeg) y1) 4 5 ((φ 4 5) + 1))) rfl ?_
    have hs := Option.some.inj hs
    subst hs
    exact qr_r hC rfl rfl
  · rw [if_neg hc] at hs
    have hs := Option.some.inj hs
    subst hs
    exact qr_r hC rfl rfl
