/-- SketchFiller$Tokens.read()V -/
def to_read_L2 (F : Nat) (nR nN : Nat) : Nat → qm_F → Int32 → Option qm_F
  | 0, _, _ => none
  | n + 1, φ, x1 =>
    qg (decide (nN < 2147483648)) <|
    if (Int32.ofNat nN) ≤ x1 then
      qg (decide (nN < 2147483648)) <|
      qb1 (to_add F nR nN φ 0 (Int32.ofNat nN) 0) fun φ1 =>
      some φ1
    else
      qg (qm_in x1 nN) <|
      if (φ 5 x1.toNatClampNeg) = 32 then
        to_read_L2 F nR nN n φ (x1 + 1)
      else
        qg (qm_in x1 nN) <|
        if ¬ (φ 5 x1.toNatClampNeg) = 10 then
          qb1 (to_bytesTogether F nR nN φ x1) fun y1 =>
          qb1 (to_kindAt F nR nN φ x1 y1) fun y2 =>
          qb1 (to_add F nR nN φ y2 x1 y1) fun φ2 =>
          if ¬ y2 = 1 then
            to_read_L2 F nR nN n φ2 ((x1 + (y1 - 1)) + 1)
          else
            some φ2
        else
          to_read_L2 F nR nN n φ (x1 + 1)
def to_read (F : Nat) (nR nN : Nat) (φ : qm_F) : Option qm_F :=
  to_read_L2 F nR nN F φ 0
set_option maxRecDepth 100000 in
theorem to_read_L2_n (F d : Nat) (nR nN : Nat) (X : List (Nat × Nat)) (ρ : Nat → Nat → Option Nat) (hd : 12 ≤ d) : ∀ (n : Nat) (φ : qm_F) (x1 : Int32) (r : qm_F), to_read_L2 F nR nN n φ x1 = some r → qm_Rn d 255 2 [.ref 4, .int x1, .retAddr 0, .retAddr 0] [] (ct nR nN X ρ φ) (none, ct nR nN X ρ r) := by
  obtain ⟨d, rfl⟩ : ∃ e, d = e + 1 := ⟨d - 1, by omega⟩
  have hC := qC_255
  intro n
  induction n with
  | zero => intro φ x1 r hs; simp [to_read_L2] at hs
  | succ n ih =>
    intro φ x1 r hs
    rw [to_read_L2] at hs
    refine qr_s hC (n := 3) (pc' := 7) (ls' := [.ref 4, .int x1, .retAddr 0, .retAddr 0]) (st' := [.ref 5, .int x1]) (h' := ct nR nN X ρ φ) rfl ?_
    obtain ⟨hq, hs⟩ := qg_s hs
    refine qr_al hC rfl rfl hq ?_
    refine qr_ge2 (tgt := 74) hC rfl (by decide) rfl (fun hc => ?_) (fun hc => ?_)
    · rw [if_pos hc] at hs
      refine qr_s hC (n := 4) (pc' := 80) (ls' := [.ref 4, .int x1, .retAddr 0, .retAddr 0]) (st' := [.ref 5, .int 0, .ref 4]) (h' := ct nR nN X ρ φ) rfl ?_
      obtain ⟨hq, hs⟩ := qg_s hs
      refine qr_al hC rfl rfl hq ?_
      refine qr_s hC (n := 1) (pc' := 82) (ls' := [.ref 4, .int x1, .retAddr 0, .retAddr 0]) (st' := [.int 0, .int (Int32.ofNat nN), .int 0, .ref 4]) (h' := ct nR nN X ρ φ) rfl ?_
      obtain ⟨φ1, hy, hs⟩ := qb1_s hs
      refine qr_c (j := 260) (as := [.ref 4, .int 0, .int (Int32.ofNat nN), .int 0]) (rest := []) (v := none) (h1 := ct nR nN X ρ φ1) hC rfl rfl qC_260 rfl rfl (to_add_n F d nR nN X ρ φ 0 (Int32.ofNat nN) 0 _ (by omega) hy) ?_
      show qm_Rn (d + 1) 255 85 [.ref 4, .int x1, .retAddr 0, .retAddr 0] [] (ct nR nN X ρ φ1) _
      have hs := Option.some.inj hs
      subst hs
      exact qr_r hC rfl rfl
    · rw [if_neg hc] at hs
      refine qr_s hC (n := 3) (pc' := 16) (ls' := [.ref 4, .int x1, .retAddr 0, .retAddr 0]) (st' := [.int x1, .ref 5]) (h' := ct nR nN X ρ φ) rfl ?_
      obtain ⟨hq, hs⟩ := qg_s hs
      refine qr_ia (v := φ 5 x1.toNatClampNeg) hC rfl rfl hq rfl ?_
      refine qr_s hC (n := 1) (pc' := 19) (ls' := [.ref 4, .int x1, .retAddr 0, .retAddr 0]) (st' := [.int 32, .int (φ 5 x1.toNatClampNeg)]) (h' := ct nR nN X ρ φ) rfl ?_
      refine qr_eq2 (tgt := 68) hC rfl (by decide) rfl (fun hc => ?_) (fun hc => ?_)
      · rw [if_pos hc] at hs
        refine qr_s hC (n := 2) (pc' := 2) (ls' := [.ref 4, .int (x1 + 1), .retAddr 0, .retAddr 0]) (st' := []) (h' := ct nR nN X ρ φ) rfl ?_
        exact ih φ (x1 + 1) _ hs
      · rw [if_neg hc] at hs
        refine qr_s hC (n := 3) (pc' := 27) (ls' := [.ref 4, .int x1, .retAddr 0, .retAddr 0]) (st' := [.int x1, .ref 5]) (h' := ct nR nN X ρ φ) rfl ?_
        obtain ⟨hq, hs⟩ := qg_s hs
        refine qr_ia (v := φ 5 x1.toNatClampNeg) hC rfl rfl hq rfl ?_
        refine qr_s hC (n := 1) (pc' := 30) (ls' := [.ref 4, .int x1, .retAddr 0, .retAddr 0]) (st' := [.int 10, .int (φ 5 x1.toNatClampNeg)]) (h' := ct nR nN X ρ φ) rfl ?_
        refine qr_ne2 (tgt := 36) hC rfl (by decide) rfl (fun hc => ?_) (fun hc => ?_)
        · rw [if_pos hc] at hs
          refine qr_s hC (n := 2) (pc' := 38) (ls' := [.ref 4, .int x1, .retAddr 0, .retAddr 0]) (st' := [.int x1, .ref 4]) (h' := ct nR nN X ρ φ) rfl ?_
          obtain ⟨y1, hy, hs⟩ := qb1_s hs
          refine qr_c (j := 256) (as := [.ref 4, .int x1]) (rest := []) (v := some (.int y1)) (h1 := ct nR nN X ρ φ) hC rfl rfl qC_256 rfl rfl (to_bytesTogether_n F d nR nN X ρ φ x1 _ (by omega) hy) ?_
          show qm_Rn (d + 1) 255 41 [.ref 4, .int x1, .retAddr 0, .retAddr 0] [.int y1] (ct nR nN X ρ φ) _
          refine qr_s hC (n := 4) (pc' := 45) (ls' := [.ref 4, .int x1, .int y1, .retAddr 0]) (st' := [.int y1, .int x1, .ref 4]) (h' := ct nR nN X ρ φ) rfl ?_
          obtain ⟨y2, hy, hs⟩ := qb1_s hs
          refine qr_c (j := 257) (as := [.ref 4, .int x1, .int y1]) (rest := []) (v := some (.int y2)) (h1 := ct nR nN X ρ φ) hC rfl rfl qC_257 rfl rfl (to_kindAt_n F d nR nN X ρ φ x1 y1 _ (by omega) hy) ?_
          show qm_Rn (d + 1) 255 48 [.ref 4, .int x1, .int y1, .retAddr 0] [.int y2] (ct nR nN X ρ φ) _
          refine qr_s hC (n := 5) (pc' := 53) (ls' := [.ref 4, .int x1, .int y1, .int y2]) (st' := [.int y1, .int x1, .int y2, .ref 4]) (h' := ct nR nN X ρ φ) rfl ?_
          obtain ⟨φ2, hy, hs⟩ := qb1_s hs
          refine qr_c (j := 260) (as := [.ref 4, .int y2, .int x1, .int y1]) (rest := []) (v := none) (h1 := ct nR nN X ρ φ2) hC rfl rfl qC_260 rfl rfl (to_add_n F d nR nN X ρ φ y2 x1 y1 _ (by omega) hy) ?_
          show qm_Rn (d + 1) 255 56 [.ref 4, .int x1, .int y1, .int y2] [] (ct nR nN X ρ φ2) _
          refine qr_s hC (n := 2) (pc' := 58) (ls' := [.ref 4, .int x1, .int y1, .int y2]) (st' := [.int 1, .int y2]) (h' := ct nR nN X ρ φ2) rfl ?_
          refine qr_ne2 (tgt := 62) hC rfl (by decide) rfl (fun hc => ?_) (fun hc => ?_)
          · rw [if_pos hc] at hs
            refine qr_s hC (n := 8) (pc' := 2) (ls' := [.ref 4, .int ((x1 + (y1 - 1)) + 1), .int y1, .int y2]) (st' := []) (h' := ct nR nN X ρ φ2) rfl ?_
            exact qr_w (a := [.ref 4, .int ((x1 + (y1 - 1)) + 1), .retAddr 0, .retAddr 0]) ⟨Or.inr rfl, Or.inr rfl, Or.inl rfl, Or.inl rfl, trivial⟩ (ih φ2 ((x1 + (y1 - 1)) + 1) _ hs)
          · rw [if_neg hc] at hs
            have hs := Option.some.inj hs
            subst hs
            exact qr_r hC rfl rfl
        · rw [if_neg hc] at hs
          refine qr_s hC (n := 3) (pc' := 2) (ls' := [.ref 4, .int (x1 + 1), .retAddr 0, .retAddr 0]) (st' := []) (h' := ct nR nN X ρ φ) rfl ?_
          exact ih φ (x1 + 1) _ hs
set_option maxRecDepth 100000 in
theorem to_read_n (F d : Nat) (nR nN : Nat) (X : List (Nat × Nat)) (ρ : Nat → Nat → Option Nat) (φ : qm_F) (r : qm_F) (hd : 12 ≤ d) (hs : to_read F nR nN φ = some r) : qm_Rn d 255 0 [.ref 4, .retAddr 0, .retAddr 0, .retAddr 0] [] (ct nR nN X ρ φ) (none, ct nR nN X ρ r) := by
  obtain ⟨d, rfl⟩ : ∃ e, d = e + 1 := ⟨d - 1, by omega⟩
  have hC := qC_255
  unfold to_read at hs
  refine qr_s hC (n := 2) (pc' := 2) (ls' := [.ref 4, .int 0, .retAddr 0, .retAddr 0]) (st' := []) (h' := ct nR nN X ρ φ) rfl ?_
  exact to_read_L2_n F (d + 1) nR nN X ρ (by omega) F φ 0 _ hs
/-- SketchFiller.has(I)I -/
def s0_has (F : Nat) (nR : Nat) (φ : qm_F) (x1 : Int32) : Option Int32 :=
  some (-1)
set_option maxRecDepth 100000 in
theorem s0_has_n (F d : Nat) (nR : Nat) (φ : qm_F) (x1 : Int32) (r : Int32) (hd : 2 ≤ d) (hs : s0_has F nR φ x1 = some r) : qm_Rn d 3 0 [.ref 0, .int x1, .retAddr 0] [] (c0 nR φ) (some (.int r), c0 nR φ) := by
  have hC := qC_3
  unfold s0_has at hs
  refine qr_s hC (n := 4) (pc' := 8) (ls' := [.ref 0, .int x1, .retAddr 0]) (st' := [.int (-1)]) (h' := c0 nR φ) rfl ?_
  have hs := Option.some.inj hs
  subst hs
  exact qr_r hC rfl rfl
/-- SketchFiller.hole(II)I -/
def s0_hole (F : Nat) (nR : Nat) (φ : qm_F) (x1 : Int32) (x2 : Int32) : Option Int32 :=
  some (-1)
set_option maxRecDepth 100000 in
theorem s0_hole_n (F d : Nat) (nR : Nat) (φ : qm_F) (x1 : Int32) (x2 : Int32) (r : Int32) (hd : 2 ≤ d) (hs : s0_hole F nR φ x1 x2 = some r) : qm_Rn d 4 0 [.ref 0, .int x1, .int x2] [] (c0 nR φ) (some (.int r), c0 nR φ) := by
  have hC := qC_4
  unfold s0_hole at hs
  refine qr_s hC (n := 4) (pc' := 22) (ls' := [.ref 0, .int x1, .int x2]) (st' := [.int (-1)]) (h' := c0 nR φ) rfl ?_
  have hs := Option.some.inj hs
  subst hs
  exact qr_r hC rfl rfl
/-- SketchFiller.value(II)I -/
def s0_value (F : Nat) (nR : Nat) (φ : qm_F) (x1 : Int32) (x2 : Int32) : Option Int32 :=
  some (-1)
set_option maxRecDepth 100000 in
theorem s0_value_n (F d : Nat) (nR : Nat) (φ : qm_F) (x1 : Int32) (x2 : Int32) (r : Int32) (hd : 2 ≤ d) (hs : s0_value F nR φ x1 x2 = some r) : qm_Rn d 5 0 [.ref 0, .int x1, .int x2] [] (c0 nR φ) (some (.int r), c0 nR φ) := by
  have hC := qC_5
  unfold s0_value at hs
  refine qr_s hC (n := 4) (pc' := 36) (ls' := [.ref 0, .int x1, .int x2]) (st' := [.int (-1)]) (h' := c0 nR φ) rfl ?_
  have hs := Option.some.inj hs
  subst hs
  exact qr_r hC rfl rfl
/-- SketchFiller.cost(I)I -/
def s0_cost (F : Nat) (nR : Nat) (φ : qm_F) (x1 : Int32) : Option Int32 :=
  some (-1)
set_option maxRecDepth 100000 in
theorem s0_cost_n (F d : Nat) (nR : Nat) (φ : qm_F) (x1 : Int32) (r : Int32) (hd : 2 ≤ d) (hs : s0_cost F nR φ x1 = some r) : qm_Rn d 6 0 [.ref 0, .int x1] [] (c0 nR φ) (some (.int r), c0 nR φ) := by
  have hC := qC_6
  unfold s0_cost at hs
  refine qr_s hC (n := 4) (pc' := 22) (ls' := [.ref 0, .int x1]) (st' := [.int (-1)]) (h' := c0 nR φ) rfl ?_
  have hs := Option.some.inj hs
  subst hs
  exact qr_r hC rfl rfl
/-- SketchFiller.verdict(II)I -/
def s0_verdict (F : Nat) (nR : Nat) (φ : qm_F) (x1 : Int32) (x2 : Int32) : Option Int32 :=
  some (-1)
set_option maxRecDepth 100000 in
theorem s0_verdict_n (F d : Nat) (nR : Nat) (φ : qm_F) (x1 : Int32) (x2 : Int32) (r : Int32) (hd : 2 ≤ d) (hs : s0_verdict F nR φ x1 x2 = some r) : qm_Rn d 7 0 [.ref 0, .int x1, .int x2] [] (c0 nR φ) (some (.int r), c0 nR φ) := by
  have hC := qC_7
  unfold s0_verdict at hs
  refine qr_s hC (n := 4) (pc' := 23) (ls' := [.ref 0, .int x1, .int x2]) (st' := [.int (-1)]) (h' := c0 nR φ) rfl ?_
  have hs := Option.some.inj hs
  subst hs
  exact qr_r hC rfl rfl
/-- SketchFiller.steps(II)I -/
def s0_steps (F : Nat) (nR : Nat) (φ : qm_F) (x1 : Int32) (x2 : Int32) : Option Int32 :=
  some (-1)
set_option maxRecDepth 100000 in
theorem s0_steps_n (F d : Nat) (nR : Nat) (φ : qm_F) (x1 : Int32) (x2 : Int32) (r : Int32) (hd : 2 ≤ d) (hs : s0_steps F nR φ x1 x2 = some r) : qm_Rn d 8 0 [.ref 0, .int x1, .int x2] [] (c0 nR φ) (some (.int r), c0 nR φ) := by
  have hC := qC_8
  unfold s0_steps at hs
  refine qr_s hC (n := 4) (pc' := 23) (ls' := [.ref 0, .int x1, .int x2]) (st' := [.int (-1)]) (h' := c0 nR φ) rfl ?_
  have hs := Option.some.inj hs
  subst hs
  exact qr_r hC rfl rfl
/-- SketchFiller.ends(III)I -/
def s0_ends (F : Nat) (nR : Nat) (φ : qm_F) (x1 : Int32) (x2 : Int32) (x3 : Int32) : Option Int32 :=
  some (-1)
set_option maxRecDepth 100000 in
theorem s0_ends_n (F d : Nat) (nR : Nat) (φ : qm_F) (x1 : Int32) (x2 : Int32) (x3 : Int32) (r : Int32) (hd : 2 ≤ d) (hs : s0_ends F nR φ x1 x2 x3 = some r) : qm_Rn d 9 0 [.ref 0, .int x1, .int x2, .int x3, .retAddr 0] [] (c0 nR φ) (some (.int r), c0 nR φ) := by
  have hC := qC_9
  unfold s0_ends at hs
  refine qr_s hC (n := 4) (pc' := 23) (ls' := [.ref 0, .int x1, .int x2, .int x3, .retAddr 0]) (st' := [.int (-1)]) (h' := c0 nR φ) rfl ?_
  have hs := Option.some.inj hs
  subst hs
  exact qr_r hC rfl rfl
/-- SketchFiller.refuter(I)I -/
def s0_refuter (F : Nat) (nR : Nat) (φ : qm_F) (x1 : Int32) : Option Int32 :=
  some (-2)
set_option maxRecDepth 100000 in
theorem s0_refuter_n (F d : Nat) (nR : Nat) (φ : qm_F) (x1 : Int32) (r : Int32) (hd : 2 ≤ d) (hs : s0_refuter F nR φ x1 = some r) : qm_Rn d 10 0 [.ref 0, .int x1] [] (c0 nR φ) (some (.int r), c0 nR φ) := by
  have hC := qC_10
  unfold s0_refuter at hs
  refine qr_s hC (n := 4) (pc' := 23) (ls' := [.ref 0, .int x1]) (st' := [.int (-2)]) (h' := c0 nR φ) rfl ?_
  have hs := Option.some.inj hs
  subst hs
  exact qr_r hC rfl rfl
/-- SketchFiller.guess()I -/
def s0_guess (F : Nat) (nR : Nat) (φ : qm_F) : Option Int32 :=
  some (-1)
set_option maxRecDepth 100000 in
theorem s0_guess_n (F d : Nat) (nR : Nat) (φ : qm_F) (r : Int32) (hd : 2 ≤ d) (hs : s0_guess F nR φ = some r) : qm_Rn d 11 0 [.ref 0] [] (c0 nR φ) (some (.int r), c0 nR φ) := by
  have hC := qC_11
  unfold s0_guess at hs
  refine qr_s hC (n := 5) (pc' := 18) (ls' := [.ref 0]) (st' := [.int (-1)]) (h' := c0 nR φ) rfl ?_
  have hs := Option.some.inj hs
  subst hs
  exact qr_r hC rfl rfl
/-- SketchFiller.check()I -/
def s0_check (F : Nat) (nR : Nat) (φ : qm_F) : Option Int32 :=
  some (-1)
set_option maxRecDepth 100000 in
theorem s0_check_n (F d : Nat) (nR : Nat) (φ : qm_F) (r : Int32) (hd : 2 ≤ d) (hs : s0_check F nR φ = some r) : qm_Rn d 12 0 [.ref 0] [] (c0 nR φ) (some (.int r), c0 nR φ) := by
  have hC := qC_12
  unfold s0_check at hs
  refine qr_s hC (n := 5) (pc' := 18) (ls' := [.ref 0]) (st' := [.int (-1)]) (h' := c0 nR φ) rfl ?_
  have hs := Option.some.inj hs
  subst hs
  exact qr_r hC rfl rfl
/-- SketchFiller.go(I)I -/
def s0_go (F : Nat) (nR : Nat) (φ : qm_F) (x1 : Int32) : Option Int32 :=
  some (-1)
set_option maxRecDepth 100000 in
theorem s0_go_n (F d : Nat) (nR : Nat) (φ : qm_F) (x1 : Int32) (r : Int32) (hd : 2 ≤ d) (hs : s0_go F nR φ x1 = some r) : qm_Rn d 13 0 [.ref 0, .int x1, .retAddr 0, .retAddr 0, .retAddr 0] [] (c0 nR φ) (some (.int r), c0 nR φ) := by
  have hC := qC_13
  unfold s0_go at hs
  refine qr_s hC (n := 4) (pc' := 19) (ls' := [.ref 0, .int x1, .retAddr 0, .retAddr 0, .retAddr 0]) (st' := [.int (-1)]) (h' := c0 nR φ) rfl ?_
  have hs := Option.some.inj hs
  subst hs
  exact qr_r hC rfl rfl
/-- SketchFiller.pin(II)Z -/
def s0_pin (F : Nat) (nR : Nat) (φ : qm_F) (x1 : Int32) (x2 : Int32) : Option Int32 :=
  some 0
set_option maxRecDepth 100000 in
theorem s0_pin_n (F d : Nat) (nR : Nat) (φ : qm_F) (x1 : Int32) (x2 : Int32) (r : Int32) (hd : 2 ≤ d) (hs : s0_pin F nR φ x1 x2 = some r) : qm_Rn d 14 0 [.ref 0, .int x1, .int x2] [] (c0 nR φ) (some (.int r), c0 nR φ) := by
  have hC := qC_14
  unfold s0_pin at hs
  refine qr_s hC (n := 4) (pc' := 22) (ls' := [.ref 0, .int x1, .int x2]) (st' := [.int 0]) (h' := c0 nR φ) rfl ?_
  have hs := Option.some.inj hs
  subst hs
  exact qr_r hC rfl rfl
/-- SketchFiller.keep(I)I -/
def s0_keep (F : Nat) (nR : Nat) (φ : qm_F) (x1 : Int32) : Option Int32 :=
  some (-1)
set_option maxRecDepth 100000 in
theorem s0_keep_n (F d : Nat) (nR : Nat) (φ : qm_F) (x1 : Int32) (r : Int32) (hd : 2 ≤ d) (hs : s0_keep F nR φ x1 = some r) : qm_Rn d 15 0 [.ref 0, .int x1] [] (c0 nR φ) (some (.int r), c0 nR φ) := by
  have hC := qC_15
  unfold s0_keep at hs
  refine qr_s hC (n := 4) (pc' := 22) (ls' := [.ref 0, .int x1]) (st' := [.int (-1)]) (h' := c0 nR φ) rfl ?_
  have hs := Option.some.inj hs
  subst hs
  exact qr_r hC rfl rfl
/-- SketchFiller.drop(I)I -/
def s0_drop (F : Nat) (nR : Nat) (φ : qm_F) (x1 : Int32) : Option Int32 :=
  some (-1)
set_option maxRecDepth 100000 in
theorem s0_drop_n (F d : Nat) (nR : Nat) (φ : qm_F) (x1 : Int32) (r : Int32) (hd : 2 ≤ d) (hs : s0_drop F nR φ x1 = some r) : qm_Rn d 16 0 [.ref 0, .int x1] [] (c0 nR φ) (some (.int r), c0 nR φ) := by
  have hC := qC_16
  unfold s0_drop at hs
  refine qr_s hC (n := 4) (pc' := 19) (ls' := [.ref 0, .int x1]) (st' := [.int (-1)]) (h' := c0 nR φ) rfl ?_
  have hs := Option.some.inj hs
  subst hs
  exact qr_r hC rfl rfl
/-- SketchFiller.set(II)I -/
def s0_set (F : Nat) (nR : Nat) (φ : qm_F) (x1 : Int32) (x2 : Int32) : Option Int32 :=
  some (-1)
set_option maxRecDepth 100000 in
theorem s0_set_n (F d : Nat) (nR : Nat) (φ : qm_F) (x1 : Int32) (x2 : Int32) (r : Int32) (hd : 2 ≤ d) (hs : s0_set F nR φ x1 x2 = some r) : qm_Rn d 17 0 [.ref 0, .int x1, .int x2] [] (c0 nR φ) (some (.int r), c0 nR φ) := by
  have hC := qC_17
  unfold s0_set at hs
  refine qr_s hC (n := 4) (pc' := 12) (ls' := [.ref 0, .int x1, .int x2]) (st' := [.int (-1)]) (h' := c0 nR φ) rfl ?_
  have hs := Option.some.inj hs
  subst hs
  exact qr_r hC rfl rfl
/-- SketchFiller.state(I)I -/
def s0_state (F : Nat) (nR : Nat) (φ : qm_F) (x1 : Int32) : Option Int32 :=
  if ¬ x1 = 5 then
    some (-1)
  else
    qb1 (ta_size F nR φ) fun y1 =>
    some y1
set_option maxRecDepth 100000 in
theorem s0_state_n (F d : Nat) (nR : Nat) (φ : qm_F) (x1 : Int32) (r : Int32) (hd : 2 ≤ d) (hs : s0_state F nR φ x1 = some r) : qm_Rn d 18 0 [.ref 0, .int x1] [] (c0 nR φ) (some (.int r), c0 nR φ) := by
  obtain ⟨d, rfl⟩ : ∃ e, d = e + 1 := ⟨d - 1, by omega⟩
  have hC := qC_18
  unfold s0_state at hs
  refine qr_s hC (n := 2) (pc' := 2) (ls' := [.ref 0, .int x1]) (st' := [.int 5, .int x1]) (h' := c0 nR φ) rfl ?_
  refine qr_ne2 (tgt := 13) hC rfl (by decide) rfl (fun hc => ?_) (fun hc => ?_)
  · rw [if_pos hc] at hs
    refine qr_s hC (n := 4) (pc' := 21) (ls' := [.ref 0, .int x1]) (st' := [.int (-1)]) (h' := c0 nR φ) rfl ?_
    have hs := Option.some.inj hs
    subst hs
    exact qr_r hC rfl rfl
  · rw [if_neg hc] at hs
    refine qr_s hC (n := 2) (pc' := 9) (ls' := [.ref 0, .int x1]) (st' := [.ref 1]) (h' := c0 nR φ) rfl ?_
    obtain ⟨y1, hy, hs⟩ := qb1_s hs
    refine qr_c (j := 251) (as := [.ref 1]) (rest := []) (v := some (.int y1)) (h1 := c0 nR φ) hC rfl rfl qC_251 rfl rfl (ta_size_n F d nR [] c0_R φ _ (by omega) hy) ?_
    show qm_Rn (d + 1) 18 12 [.ref 0, .int x1] [.int y1] (c0 nR φ) _
    have hs := Option.some.inj hs
    subst hs
    exact qr_r hC rfl rfl
/-- SketchFiller.many(I)I -/
def s0_many (F : Nat) (nR : Nat) (φ : qm_F) (x1 : Int32) : Option Int32 :=
  some (-1)
set_option maxRecDepth 100000 in
theorem s0_many_n (F d : Nat) (nR : Nat) (φ : qm_F) (x1 : Int32) (r : Int32) (hd : 2 ≤ d) (hs : s0_many F nR φ x1 = some r) : qm_Rn d 19 0 [.ref 0, .int x1] [] (c0 nR φ) (some (.int r), c0 nR φ) := by
  have hC := qC_19
  unfold s0_many at hs
  refine qr_s hC (n := 4) (pc' := 18) (ls' := [.ref 0, .int x1]) (st' := [.int (-1)]) (h' := c0 nR φ) rfl ?_
  have hs := Option.some.inj hs
  subst hs
  exact qr_r hC rfl rfl
/-- SketchFiller.by(II)I -/
def s0_by (F : Nat) (nR : Nat) (φ : qm_F) (x1 : Int32) (x2 : Int32) : Option Int32 :=
  some (-1)
set_option maxRecDepth 100000 in
theorem s0_by_n (F d : Nat) (nR : Nat) (φ : qm_F) (x1 : Int32) (x2 : Int32) (r : Int32) (hd : 2 ≤ d) (hs : s0_by F nR φ x1 x2 = some r) : qm_Rn d 20 0 [.ref 0, .int x1, .int x2] [] (c0 nR φ) (some (.int r), c0 nR φ) := by
  have hC := qC_20
  unfold s0_by at hs
  refine qr_s hC (n := 4) (pc' := 22) (ls' := [.ref 0, .int x1, .int x2]) (st' := [.int (-1)]) (h' := c0 nR φ) rfl ?_
  have hs := Option.some.inj hs
  subst hs
  exact qr_r hC rfl rfl
/-- SketchFiller.refutes(I)I -/
def s0_refutes (F : Nat) (nR : Nat) (φ : qm_F) (x1 : Int32) : Option Int32 :=
  some (-1)
set_option maxRecDepth 100000 in
theorem s0_refutes_n (F d : Nat) (nR : Nat) (φ : qm_F) (x1 : Int32) (r : Int32) (hd : 2 ≤ d) (hs : s0_refutes F nR φ x1 = some r) : qm_Rn d 21 0 [.ref 0, .int x1] [] (c0 nR φ) (some (.int r), c0 nR φ) := by
  have hC := qC_21
  unfold s0_refutes at hs
  refine qr_s hC (n := 4) (pc' := 22) (ls' := [.ref 0, .int x1]) (st' := [.int (-1)]) (h' := c0 nR φ) rfl ?_
  have hs := Option.some.inj hs
  subst hs
  exact qr_r hC rfl rfl
/-- SketchFiller.sharpest(I)I -/
def s0_sharpest (F : Nat) (nR : Nat) (φ : qm_F) (x1 : Int32) : Option Int32 :=
  some (-1)
set_option maxRecDepth 100000 in
theorem s0_sharpest_n (F d : Nat) (nR : Nat) (φ : qm_F) (x1 : Int32) (r : Int32) (hd : 2 ≤ d) (hs : s0_sharpest F nR φ x1 = some r) : qm_Rn d 22 0 [.ref 0, .int x1, .retAddr 0] [] (c0 nR φ) (some (.int r), c0 nR φ) := by
  have hC := qC_22
  unfold s0_sharpest at hs
  refine qr_s hC (n := 4) (pc' := 17) (ls' := [.ref 0, .int x1, .retAddr 0]) (st' := [.int (-1)]) (h' := c0 nR φ) rfl ?_
  have hs := Option.some.inj hs
  subst hs
  exact qr_r hC rfl rfl
/-- SketchFiller.free(II)I -/
def s0_free (F : Nat) (nR : Nat) (φ : qm_F) (x1 : Int32) (x2 : Int32) : Option Int32 :=
  some (-1)
set_option maxRecDepth 100000 in
theorem s0_free_n (F d : Nat) (nR : Nat) (φ : qm_F) (x1 : Int32) (x2 : Int32) (r : Int32) (hd : 2 ≤ d) (hs : s0_free F nR φ x1 x2 = some r) : qm_Rn d 23 0 [.ref 0, .int x1, .int x2, .retAddr 0, .retAddr 0, .retAddr 0] [] (c0 nR φ) (some (.int r), c0 nR φ) := by
  have hC := qC_23
  unfold s0_free at hs
  refine qr_s hC (n := 4) (pc' := 36) (ls' := [.ref 0, .int x1, .int x2, .retAddr 0, .retAddr 0, .retAddr 0]) (st' := [.int (-1)]) (h' := c0 nR φ) rfl ?_
  have hs := Option.some.inj hs
  subst hs
  exact qr_r hC rfl rfl
/-- SketchFiller.needed(I)I -/
def s0_needed (F : Nat) (nR : Nat) (φ : qm_F) (x1 : Int32) : Option Int32 :=
  some (-1)
set_option maxRecDepth 100000 in
theorem s0_needed_n (F d : Nat) (nR : Nat) (φ : qm_F) (x1 : Int32) (r : Int32) (hd : 2 ≤ d) (hs : s0_needed F nR φ x1 = some r) : qm_Rn d 24 0 [.ref 0, .int x1] [] (c0 nR φ) (some (.int r), c0 nR φ) := by
  have hC := qC_24
  unfold s0_needed at hs
  refine qr_s hC (n := 4) (pc' := 19) (ls' := [.ref 0, .int x1]) (st' := [.int (-1)]) (h' := c0 nR φ) rfl ?_
  have hs := Option.some.inj hs
  subst hs
  exact qr_r hC rfl rfl
/-- SketchFiller.core(I)I -/
def s0_core (F : Nat) (nR : Nat) (φ : qm_F) (x1 : Int32) : Option Int32 :=
  some (-1)
set_option maxRecDepth 100000 in
theorem s0_core_n (F d : Nat) (nR : Nat) (φ : qm_F) (x1 : Int32) (r : Int32) (hd : 2 ≤ d) (hs : s0_core F nR φ x1 = some r) : qm_Rn d 25 0 [.ref 0, .int x1, .retAddr 0, .retAddr 0] [] (c0 nR φ) (some (.int r), c0 nR φ) := by
  have hC := qC_25
  unfold s0_core at hs
  refine qr_s hC (n := 4) (pc' := 13) (ls' := [.ref 0, .int x1, .retAddr 0, .retAddr 0]) (st' := [.int (-1)]) (h' := c0 nR φ) rfl ?_
  have hs := Option.some.inj hs
  subst hs
  exact qr_r hC rfl rfl
/-- SketchFiller.kinds()I -/
def s0_kinds (F : Nat) (nR : Nat) (φ : qm_F) : Option Int32 :=
  some (-1)
set_option maxRecDepth 100000 in
theorem s0_kinds_n (F d : Nat) (nR : Nat) (φ : qm_F) (r : Int32) (hd : 2 ≤ d) (hs : s0_kinds F nR φ = some r) : qm_Rn d 26 0 [.ref 0] [] (c0 nR φ) (some (.int r), c0 nR φ) := by
  have hC := qC_26
  unfold s0_kinds at hs
  refine qr_s hC (n := 4) (pc' := 8) (ls' := [.ref 0]) (st' := [.int (-1)]) (h' := c0 nR φ) rfl ?_
  have hs := Option.some.inj hs
  subst hs
  exact qr_r hC rfl rfl
/-- SketchFiller.alike(II)Z -/
def s0_alike (F : Nat) (nR : Nat) (φ : qm_F) (x1 : Int32) (x2 : Int32) : Option Int32 :=
  some 0
set_option maxRecDepth 100000 in
theorem s0_alike_n (F d : Nat) (nR : Nat) (φ : qm_F) (x1 : Int32) (x2 : Int32) (r : Int32) (hd : 2 ≤ d) (hs : s0_alike F nR φ x1 x2 = some r) : qm_Rn d 27 0 [.ref 0, .int x1, .int x2] [] (c0 nR φ) (some (.int r), c0 nR φ) := by
  have hC := qC_27
  unfold s0_alike at hs
  refine qr_s hC (n := 4) (pc' := 36) (ls' := [.ref 0, .int x1, .int x2]) (st' := [.int 0]) (h' := c0 nR φ) rfl ?_
  have hs := Option.some.inj hs
  subst hs
  exact qr_r hC rfl rfl
/-- SketchFiller.shown(II)I -/
def s0_shown (F : Nat) (nR : Nat) (φ : qm_F) (x1 : Int32) (x2 : Int32) : Option Int32 :=
  some (-1)
set_option maxRecDepth 100000 in
theorem s0_shown_n (F d : Nat) (nR : Nat) (φ : qm_F) (x1 : Int32) (x2 : Int32) (r : Int32) (hd : 2 ≤ d) (hs : s0_shown F nR φ x1 x2 = some r) : qm_Rn d 28 0 [.ref 0, .int x1, .int x2] [] (c0 nR φ) (some (.int r), c0 nR φ) := by
  have hC := qC_28
  unfold s0_shown at hs
  refine qr_s hC (n := 4) (pc' := 27) (ls' := [.ref 0, .int x1, .int x2]) (st' := [.int (-1)]) (h' := c0 nR φ) rfl ?_
  have hs := Option.some.inj hs
  subst hs
  exact qr_r hC rfl rfl
