/-- SketchFiller$Tokens.placeOf(I)I -/
def to_placeOf (F : Nat) (nR nN : Nat) (φ : qm_F) (x1 : Int32) : Option Int32 :=
  if x1 < 0 then
    qg (decide (nN < 2147483648)) <|
    some (Int32.ofNat nN)
  else
    if (φ 4 5) ≤ x1 then
      qg (decide (nN < 2147483648)) <|
      some (Int32.ofNat nN)
    else
      qg (qm_in x1 (nN + 1)) <|
      some (φ 7 x1.toNatClampNeg)
set_option maxRecDepth 100000 in
theorem to_placeOf_n (F d : Nat) (nR nN : Nat) (X : List (Nat × Nat)) (ρ : Nat → Nat → Option Nat) (φ : qm_F) (x1 : Int32) (r : Int32) (hd : 0 ≤ d) (hs : to_placeOf F nR nN φ x1 = some r) : qm_Rn d 266 0 [.ref 4, .int x1] [] (ct nR nN X ρ φ) (some (.int r), ct nR nN X ρ φ) := by
  have hC := qC_266
  unfold to_placeOf at hs
  refine qr_s hC (n := 1) (pc' := 1) (ls' := [.ref 4, .int x1]) (st' := [.int x1]) (h' := ct nR nN X ρ φ) rfl ?_
  refine qr_lt1 (tgt := 21) hC rfl (by decide) rfl (fun hc => ?_) (fun hc => ?_)
  · rw [if_pos hc] at hs
    refine qr_s hC (n := 2) (pc' := 25) (ls' := [.ref 4, .int x1]) (st' := [.ref 5]) (h' := ct nR nN X ρ φ) rfl ?_
    obtain ⟨hq, hs⟩ := qg_s hs
    refine qr_al hC rfl rfl hq ?_
    have hs := Option.some.inj hs
    subst hs
    exact qr_r hC rfl rfl
  · rw [if_neg hc] at hs
    refine qr_s hC (n := 3) (pc' := 9) (ls' := [.ref 4, .int x1]) (st' := [.int (φ 4 5), .int x1]) (h' := ct nR nN X ρ φ) rfl ?_
    refine qr_ge2 (tgt := 21) hC rfl (by decide) rfl (fun hc => ?_) (fun hc => ?_)
    · rw [if_pos hc] at hs
      refine qr_s hC (n := 2) (pc' := 25) (ls' := [.ref 4, .int x1]) (st' := [.ref 5]) (h' := ct nR nN X ρ φ) rfl ?_
      obtain ⟨hq, hs⟩ := qg_s hs
      refine qr_al hC rfl rfl hq ?_
      have hs := Option.some.inj hs
      subst hs
      exact qr_r hC rfl rfl
    · rw [if_neg hc] at hs
      refine qr_s hC (n := 3) (pc' := 17) (ls' := [.ref 4, .int x1]) (st' := [.int x1, .ref 7]) (h' := ct nR nN X ρ φ) rfl ?_
      obtain ⟨hq, hs⟩ := qg_s hs
      refine qr_ia (v := φ 7 x1.toNatClampNeg) hC rfl rfl hq rfl ?_
      refine qr_s hC (n := 1) (pc' := 26) (ls' := [.ref 4, .int x1]) (st' := [.int (φ 7 x1.toNatClampNeg)]) (h' := ct nR nN X ρ φ) rfl ?_
      have hs := Option.some.inj hs
      subst hs
      exact qr_r hC rfl rfl
/-- SketchFiller$Tokens.byteOf(II)I -/
def to_byteOf (F : Nat) (nR nN : Nat) (φ : qm_F) (x1 : Int32) (x2 : Int32) : Option Int32 :=
  qb1 (to_placeOf F nR nN φ x1) fun y1 =>
  if (y1 + x2) < 0 then
    some (-1)
  else
    qg (decide (nN < 2147483648)) <|
    if (Int32.ofNat nN) ≤ (y1 + x2) then
      some (-1)
    else
      qg (qm_in (y1 + x2) nN) <|
      some (φ 5 ((y1 + x2).toNatClampNeg))
set_option maxRecDepth 100000 in
theorem to_byteOf_n (F d : Nat) (nR nN : Nat) (X : List (Nat × Nat)) (ρ : Nat → Nat → Option Nat) (φ : qm_F) (x1 : Int32) (x2 : Int32) (r : Int32) (hd : 1 ≤ d) (hs : to_byteOf F nR nN φ x1 x2 = some r) : qm_Rn d 270 0 [.ref 4, .int x1, .int x2, .retAddr 0] [] (ct nR nN X ρ φ) (some (.int r), ct nR nN X ρ φ) := by
  obtain ⟨d, rfl⟩ : ∃ e, d = e + 1 := ⟨d - 1, by omega⟩
  have hC := qC_270
  unfold to_byteOf at hs
  refine qr_s hC (n := 2) (pc' := 2) (ls' := [.ref 4, .int x1, .int x2, .retAddr 0]) (st' := [.int x1, .ref 4]) (h' := ct nR nN X ρ φ) rfl ?_
  obtain ⟨y1, hy, hs⟩ := qb1_s hs
  refine qr_c (j := 266) (as := [.ref 4, .int x1]) (rest := []) (v := some (.int y1)) (h1 := ct nR nN X ρ φ) hC rfl rfl qC_266 rfl rfl (to_placeOf_n F d nR nN X ρ φ x1 _ (by omega) hy) ?_
  show qm_Rn (d + 1) 270 5 [.ref 4, .int x1, .int x2, .retAddr 0] [.int y1] (ct nR nN X ρ φ) _
  refine qr_s hC (n := 4) (pc' := 9) (ls' := [.ref 4, .int x1, .int x2, .int (y1 + x2)]) (st' := [.int (y1 + x2)]) (h' := ct nR nN X ρ φ) rfl ?_
  refine qr_lt1 (tgt := 30) hC rfl (by decide) rfl (fun hc => ?_) (fun hc => ?_)
  · rw [if_pos hc] at hs
    refine qr_s hC (n := 1) (pc' := 31) (ls' := [.ref 4, .int x1, .int x2, .int (y1 + x2)]) (st' := [.int (-1)]) (h' := ct nR nN X ρ φ) rfl ?_
    have hs := Option.some.inj hs
    subst hs
    exact qr_r hC rfl rfl
  · rw [if_neg hc] at hs
    refine qr_s hC (n := 3) (pc' := 17) (ls' := [.ref 4, .int x1, .int x2, .int (y1 + x2)]) (st' := [.ref 5, .int (y1 + x2)]) (h' := ct nR nN X ρ φ) rfl ?_
    obtain ⟨hq, hs⟩ := qg_s hs
    refine qr_al hC rfl rfl hq ?_
    refine qr_ge2 (tgt := 30) hC rfl (by decide) rfl (fun hc => ?_) (fun hc => ?_)
    · rw [if_pos hc] at hs
      refine qr_s hC (n := 1) (pc' := 31) (ls' := [.ref 4, .int x1, .int x2, .int (y1 + x2)]) (st' := [.int (-1)]) (h' := ct nR nN X ρ φ) rfl ?_
      have hs := Option.some.inj hs
      subst hs
      exact qr_r hC rfl rfl
    · rw [if_neg hc] at hs
      refine qr_s hC (n := 3) (pc' := 26) (ls' := [.ref 4, .int x1, .int x2, .int (y1 + x2)]) (st' := [.int (y1 + x2), .ref 5]) (h' := ct nR nN X ρ φ) rfl ?_
      obtain ⟨hq, hs⟩ := qg_s hs
      refine qr_ia (v := φ 5 ((y1 + x2).toNatClampNeg)) hC rfl rfl hq rfl ?_
      refine qr_s hC (n := 1) (pc' := 31) (ls' := [.ref 4, .int x1, .int x2, .int (y1 + x2)]) (st' := [.int (φ 5 ((y1 + x2).toNatClampNeg))]) (h' := ct nR nN X ρ φ) rfl ?_
      have hs := Option.some.inj hs
      subst hs
      exact qr_r hC rfl rfl
/-- SketchFiller$Program.byteOfToken(III)I -/
def pr_byteOfToken_L35 (F : Nat) (nR nN nT : Nat) : Nat → qm_F → Int32 → Int32 → Int32 → Option Int32
  | 0, _, _, _, _ => none
  | n + 1, φ, x3, x4, x5 =>
    if x5 ≤ x3 then
      some (48 + (x4 - x4 / 10 * 10))
    else
      pr_byteOfToken_L35 F nR nN nT n φ x3 (x4 / 10) (x5 + (-1))
def pr_byteOfToken (F : Nat) (nR nN nT : Nat) (φ : qm_F) (x1 : Int32) (x2 : Int32) (x3 : Int32) : Option Int32 :=
  qb1 (pr_isShownAsNumber F nR nN nT φ x2) fun y1 =>
  if ¬ y1 = 0 then
    qb1 (pr_shownNumber F nR nN nT φ x1 x2) fun y2 =>
    qb1 (pr_digitsOf F nR nN nT φ y2) fun y3 =>
    pr_byteOfToken_L35 F nR nN nT F φ x3 y2 (y3 - 1)
  else
    qb1 (to_byteOf F nR nN φ x2 x3) fun y4 =>
    some y4
set_option maxRecDepth 100000 in
theorem pr_byteOfToken_L35_n (F d : Nat) (nR nN nT : Nat) (X : List (Nat × Nat)) (ρ : Nat → Nat → Option Nat) (hd : 3 ≤ d) : ∀ (n : Nat) (φ : qm_F) (x3 : Int32) (x4 : Int32) (x5 : Int32) (r : Int32), pr_byteOfToken_L35 F nR nN nT n φ x3 x4 x5 = some r → qm_Rn d 220 35 [.retAddr 0, .retAddr 0, .retAddr 0, .int x3, .int x4, .int x5] [] (cw nR nN nT X ρ φ) (some (.int r), cw nR nN nT X ρ φ) := by
  obtain ⟨d, rfl⟩ : ∃ e, d = e + 1 := ⟨d - 1, by omega⟩
  have hC := qC_220
  intro n
  induction n with
  | zero => intro φ x3 x4 x5 r hs; simp [pr_byteOfToken_L35] at hs
  | succ n ih =>
    intro φ x3 x4 x5 r hs
    rw [pr_byteOfToken_L35] at hs
    refine qr_s hC (n := 2) (pc' := 38) (ls' := [.retAddr 0, .retAddr 0, .retAddr 0, .int x3, .int x4, .int x5]) (st' := [.int x3, .int x5]) (h' := cw nR nN nT X ρ φ) rfl ?_
    refine qr_le2 (tgt := 54) hC rfl (by decide) rfl (fun hc => ?_) (fun hc => ?_)
    · rw [if_pos hc] at hs
      refine qr_s hC (n := 3) (pc' := 60) (ls' := [.retAddr 0, .retAddr 0, .retAddr 0, .int x3, .int x4, .int x5]) (st' := [.int 10, .int x4, .int 48]) (h' := cw nR nN nT X ρ φ) rfl ?_
      refine qr_rm hC rfl (by decide) ?_
      refine qr_s hC (n := 1) (pc' := 62) (ls' := [.retAddr 0, .retAddr 0, .retAddr 0, .int x3, .int x4, .int x5]) (st' := [.int (48 + (x4 - x4 / 10 * 10))]) (h' := cw nR nN nT X ρ φ) rfl ?_
      have hs := Option.some.inj hs
      subst hs
      exact qr_r hC rfl rfl
    · rw [if_neg hc] at hs
      refine qr_s hC (n := 2) (pc' := 45) (ls' := [.retAddr 0, .retAddr 0, .retAddr 0, .int x3, .int x4, .int x5]) (st' := [.int 10, .int x4]) (h' := cw nR nN nT X ρ φ) rfl ?_
      refine qr_dv hC rfl (by decide) ?_
      refine qr_s hC (n := 3) (pc' := 35) (ls' := [.retAddr 0, .retAddr 0, .retAddr 0, .int x3, .int (x4 / 10), .int (x5 + (-1))]) (st' := []) (h' := cw nR nN nT X ρ φ) rfl ?_
      exact ih φ x3 (x4 / 10) (x5 + (-1)) _ hs
set_option maxRecDepth 100000 in
theorem pr_byteOfToken_n (F d : Nat) (nR nN nT : Nat) (X : List (Nat × Nat)) (ρ : Nat → Nat → Option Nat) (φ : qm_F) (x1 : Int32) (x2 : Int32) (x3 : Int32) (r : Int32) (hd : 3 ≤ d) (hs : pr_byteOfToken F nR nN nT φ x1 x2 x3 = some r) : qm_Rn d 220 0 [.ref 14, .int x1, .int x2, .int x3, .retAddr 0, .retAddr 0] [] (cw nR nN nT X ρ φ) (some (.int r), cw nR nN nT X ρ φ) := by
  obtain ⟨d, rfl⟩ : ∃ e, d = e + 1 := ⟨d - 1, by omega⟩
  have hC := qC_220
  unfold pr_byteOfToken at hs
  refine qr_s hC (n := 2) (pc' := 2) (ls' := [.ref 14, .int x1, .int x2, .int x3, .retAddr 0, .retAddr 0]) (st' := [.int x2, .ref 14]) (h' := cw nR nN nT X ρ φ) rfl ?_
  obtain ⟨y1, hy, hs⟩ := qb1_s hs
  refine qr_c (j := 217) (as := [.ref 14, .int x2]) (rest := []) (v := some (.int y1)) (h1 := cw nR nN nT X ρ φ) hC rfl rfl qC_217 rfl rfl (pr_isShownAsNumber_n F d nR nN nT X ρ φ x2 _ (by omega) hy) ?_
  show qm_Rn (d + 1) 220 5 [.ref 14, .int x1, .int x2, .int x3, .retAddr 0, .retAddr 0] [.int y1] (cw nR nN nT X ρ φ) _
  refine qr_ne1 (tgt := 18) hC rfl (by decide) rfl (fun hc => ?_) (fun hc => ?_)
  · rw [if_pos hc] at hs
    refine qr_s hC (n := 3) (pc' := 21) (ls' := [.ref 14, .int x1, .int x2, .int x3, .retAddr 0, .retAddr 0]) (st' := [.int x2, .int x1, .ref 14]) (h' := cw nR nN nT X ρ φ) rfl ?_
    obtain ⟨y2, hy, hs⟩ := qb1_s hs
    refine qr_c (j := 218) (as := [.ref 14, .int x1, .int x2]) (rest := []) (v := some (.int y2)) (h1 := cw nR nN nT X ρ φ) hC rfl rfl qC_218 rfl rfl (pr_shownNumber_n F d nR nN nT X ρ φ x1 x2 _ (by omega) hy) ?_
    show qm_Rn (d + 1) 220 24 [.ref 14, .int x1, .int x2, .int x3, .retAddr 0, .retAddr 0] [.int y2] (cw nR nN nT X ρ φ) _
    refine qr_s hC (n := 2) (pc' := 28) (ls' := [.ref 14, .int x1, .int x2, .int x3, .int y2, .retAddr 0]) (st' := [.int y2]) (h' := cw nR nN nT X ρ φ) rfl ?_
    obtain ⟨y3, hy, hs⟩ := qb1_s hs
    refine qr_c (j := 221) (as := [.int y2]) (rest := []) (v := some (.int y3)) (h1 := cw nR nN nT X ρ φ) hC rfl rfl qC_221 rfl rfl (pr_digitsOf_n F d nR nN nT X ρ φ y2 _ (by omega) hy) ?_
    show qm_Rn (d + 1) 220 31 [.ref 14, .int x1, .int x2, .int x3, .int y2, .retAddr 0] [.int y3] (cw nR nN nT X ρ φ) _
    refine qr_s hC (n := 3) (pc' := 35) (ls' := [.ref 14, .int x1, .int x2, .int x3, .int y2, .int (y3 - 1)]) (st' := []) (h' := cw nR nN nT X ρ φ) rfl ?_
    exact qr_w (a := [.retAddr 0, .retAddr 0, .retAddr 0, .int x3, .int y2, .int (y3 - 1)]) ⟨Or.inl rfl, Or.inl rfl, Or.inl rfl, Or.inr rfl, Or.inr rfl, Or.inr rfl, trivial⟩ (pr_byteOfToken_L35_n F (d + 1) nR nN nT X ρ (by omega) F φ x3 y2 (y3 - 1) _ hs)
  · rw [if_neg hc] at hs
    refine qr_s hC (n := 4) (pc' := 14) (ls' := [.ref 14, .int x1, .int x2, .int x3, .retAddr 0, .retAddr 0]) (st' := [.int x3, .int x2, .ref 4]) (h' := cw nR nN nT X ρ φ) rfl ?_
    obtain ⟨y4, hy, hs⟩ := qb1_s hs
    refine qr_c (j := 270) (as := [.ref 4, .int x2, .int x3]) (rest := []) (v := some (.int y4)) (h1 := cw nR nN nT X ρ φ) hC rfl rfl qC_270 rfl rfl (to_byteOf_n F d nR nN (cw_X nT X) (cw_R ρ) φ x2 x3 _ (by omega) hy) ?_
    show qm_Rn (d + 1) 220 17 [.ref 14, .int x1, .int x2, .int x3, .retAddr 0, .retAddr 0] [.int y4] (cw nR nN nT X ρ φ) _
    have hs := Option.some.inj hs
    subst hs
    exact qr_r hC rfl rfl
/-- SketchFiller$Program.shownByte(II)I -/
def pr_shownByte_L8 (F : Nat) (nR nN nT : Nat) : Nat → Nat → qm_F → Int32 → Int32 → Int32 → Int32 → Option Int32
  | 0, _, _, _, _, _, _ => none
  | n + 1, t, φ, x1, x3, x4, x5 =>
    if t = 0 then
      qb1 (pr_shownEnd F nR nN nT φ) fun y1 =>
      if y1 ≤ x4 then
        some (-1)
      else
        qb1 (pr_shownLength F nR nN nT φ x1 x4) fun y2 =>
        if y2 ≤ x3 then
          if ¬ x3 = y2 then
            pr_shownByte_L8 F nR nN nT n 1 φ x1 x3 x4 y2
          else
            qb1 (pr_shownEnd F nR nN nT φ) fun y3 =>
            if y3 ≤ (x4 + 1) then
              pr_shownByte_L8 F nR nN nT n 1 φ x1 x3 x4 y2
            else
              some 32
        else
          qb1 (pr_byteOfToken F nR nN nT φ x1 x4 x3) fun y4 =>
          some y4
    else
    if 0 ≤ (x3 - (x5 + 1)) then
      pr_shownByte_L8 F nR nN nT n 0 φ x1 (x3 - (x5 + 1)) (x4 + 1) 0
    else
      some (-1)
def pr_shownByte (F : Nat) (nR nN nT : Nat) (φ : qm_F) (x1 : Int32) (x2 : Int32) : Option Int32 :=
  pr_shownByte_L8 F nR nN nT F 0 φ x1 x2 (φ 14 17) 0
set_option maxRecDepth 100000 in
theorem pr_shownByte_L8_n0 (F d : Nat) (nR nN nT : Nat) (X : List (Nat × Nat)) (ρ : Nat → Nat → Option Nat) (hd : 4 ≤ d) : ∀ (n t : Nat) (φ : qm_F) (x1 : Int32) (x3 : Int32) (x4 : Int32) (x5 : Int32) (r : Int32), pr_shownByte_L8 F nR nN nT n t φ x1 x3 x4 x5 = some r → (t = 0 → qm_Rn d 216 8 [.ref 14, .int x1, .retAddr 0, .int x3, .int x4, .retAddr 0] [] (cw nR nN nT X ρ φ) (some (.int r), cw nR nN nT X ρ φ)) ∧ (t ≠ 0 → qm_Rn d 216 61 [.ref 14, .int x1, .retAddr 0, .int x3, .int x4, .int x5] [] (cw nR nN nT X ρ φ) (some (.int r), cw nR nN nT X ρ φ)) := by
  obtain ⟨d, rfl⟩ : ∃ e, d = e + 1 := ⟨d - 1, by omega⟩
  have hC := qC_216
  intro n
  induction n with
  | zero => intro t φ x1 x3 x4 x5 r hs; simp [pr_shownByte_L8] at hs
  | succ n ihh =>
    intro t φ x1 x3 x4 x5 r hs
    rw [pr_shownByte_L8] at hs
    have ih0 : ∀ (φ : qm_F) (x1 : Int32) (x3 : Int32) (x4 : Int32) (x5 : Int32) (r : Int32), pr_shownByte_L8 F nR nN nT n 0 φ x1 x3 x4 x5 = some r → _ := fun φ x1 x3 x4 x5 r q => (ihh 0 φ x1 x3 x4 x5 r q).1 rfl
    have ih1 : ∀ (φ : qm_F) (x1 : Int32) (x3 : Int32) (x4 : Int32) (x5 : Int32) (r : Int32), pr_shownByte_L8 F nR nN nT n 1 φ x1 x3 x4 x5 = some r → _ := fun φ x1 x3 x4 x5 r q => (ihh 1 φ x1 x3 x4 x5 r q).2 (by decide)
    refine ⟨fun ht => ?_, fun ht => ?_⟩
    · subst ht
      rw [if_pos rfl] at hs
      refine qr_s hC (n := 2) (pc' := 11) (ls' := [.ref 14, .int x1, .retAddr 0, .int x3, .int x4, .retAddr 0]) (st' := [.ref 14, .int x4]) (h' := cw nR nN nT X ρ φ) rfl ?_
      obtain ⟨y1, hy, hs⟩ := qb1_s hs
      refine qr_c (j := 214) (as := [.ref 14]) (rest := [.int x4]) (v := some (.int y1)) (h1 := cw nR nN nT X ρ φ) hC rfl rfl qC_214 rfl rfl (pr_shownEnd_n F d nR nN nT X ρ φ _ (by omega) hy) ?_
      show qm_Rn (d + 1) 216 14 [.ref 14, .int x1, .retAddr 0, .int x3, .int x4, .retAddr 0] [.int y1, .int x4] (cw nR nN nT X ρ φ) _
      refine qr_ge2 (tgt := 80) hC rfl (by decide) rfl (fun hc => ?_) (fun hc => ?_)
      · rw [if_pos hc] at hs
        refine qr_s hC (n := 1) (pc' := 81) (ls' := [.ref 14, .int x1, .retAddr 0, .int x3, .int x4, .retAddr 0]) (st' := [.int (-1)]) (h' := cw nR nN nT X ρ φ) rfl ?_
        have hs := Option.some.inj hs
        subst hs
        exact qr_r hC rfl rfl
      · rw [if_neg hc] at hs
        refine qr_s hC (n := 3) (pc' := 21) (ls' := [.ref 14, .int x1, .retAddr 0, .int x3, .int x4, .retAddr 0]) (st' := [.int x4, .int x1, .ref 14]) (h' := cw nR nN nT X ρ φ) rfl ?_
        obtain ⟨y2, hy, hs⟩ := qb1_s hs
        refine qr_c (j := 219) (as := [.ref 14, .int x1, .int x4]) (rest := []) (v := some (.int y2)) (h1 := cw nR nN nT X ρ φ) hC rfl rfl qC_219 rfl rfl (pr_shownLength_n F d nR nN nT X ρ φ x1 x4 _ (by omega) hy) ?_
        show qm_Rn (d + 1) 216 24 [.ref 14, .int x1, .retAddr 0, .int x3, .int x4, .retAddr 0] [.int y2] (cw nR nN nT X ρ φ) _
        refine qr_s hC (n := 3) (pc' := 29) (ls' := [.ref 14, .int x1, .retAddr 0, .int x3, .int x4, .int y2]) (st' := [.int y2, .int x3]) (h' := cw nR nN nT X ρ φ) rfl ?_
        refine qr_ge2 (tgt := 41) hC rfl (by decide) rfl (fun hc => ?_) (fun hc => ?_)
        · rw [if_pos hc] at hs
          refine qr_s hC (n := 2) (pc' := 44) (ls' := [.ref 14, .int x1, .retAddr 0, .int x3, .int x4, .int y2]) (st' := [.int y2, .int x3]) (h' := cw nR nN nT X ρ φ) rfl ?_
          refine qr_ne2 (tgt := 61) hC rfl (by decide) rfl (fun hc => ?_) (fun hc => ?_)
          · rw [if_pos hc] at hs
            exact (ih1 φ x1 x3 x4 y2 _ hs)
          · rw [if_neg hc] at hs
            refine qr_s hC (n := 4) (pc' := 52) (ls' := [.ref 14, .int x1, .retAddr 0, .int x3, .int x4, .int y2]) (st' := [.ref 14, .int (x4 + 1)]) (h' := cw nR nN nT X ρ φ) rfl ?_
            obtain ⟨y3, hy, hs⟩ := qb1_s hs
            refine qr_c (j := 214) (as := [.ref 14]) (rest := [.int (x4 + 1)]) (v := some (.int y3)) (h1 := cw nR nN nT X ρ φ) hC rfl rfl qC_214 rfl rfl (pr_shownEnd_n F d nR nN nT X ρ φ _ (by omega) hy) ?_
            show qm_Rn (d + 1) 216 55 [.ref 14, .int x1, .retAddr 0, .int x3, .int x4, .int y2] [.int y3, .int (x4 + 1)] (cw nR nN nT X ρ φ) _
            refine qr_ge2 (tgt := 61) hC rfl (by decide) rfl (fun hc => ?_) (fun hc => ?_)
            · rw [if_pos hc] at hs
              exact (ih1 φ x1 x3 x4 y2 _ hs)
            · rw [if_neg hc] at hs
              refine qr_s hC (n := 1) (pc' := 60) (ls' := [.ref 14, .int x1, .retAddr 0, .int x3, .int x4, .int y2]) (st' := [.int 32]) (h' := cw nR nN nT X ρ φ) rfl ?_
              have hs := Option.some.inj hs
              subst hs
              exact qr_r hC rfl rfl
        · rw [if_neg hc] at hs
          refine qr_s hC (n := 4) (pc' := 37) (ls' := [.ref 14, .int x1, .retAddr 0, .int x3, .int x4, .int y2]) (st' := [.int x3, .int x4, .int x1, .ref 14]) (h' := cw nR nN nT X ρ φ) rfl ?_
          obtain ⟨y4, hy, hs⟩ := qb1_s hs
          refine qr_c (j := 220) (as := [.ref 14, .int x1, .int x4, .int x3]) (rest := []) (v := some (.int y4)) (h1 := cw nR nN nT X ρ φ) hC rfl rfl qC_220 rfl rfl (pr_byteOfToken_n F d nR nN nT X ρ φ x1 x4 x3 _ (by omega) hy) ?_
          show qm_Rn (d + 1) 216 40 [.ref 14, .int x1, .retAddr 0, .int x3, .int x4, .int y2] [.int y4] (cw nR nN nT X ρ φ) _
          have hs := Option.some.inj hs
          subst hs
          exact qr_r hC rfl rfl
    · have ht0 := ht
      rw [if_neg ht0] at hs
      refine qr_s hC (n := 7) (pc' := 69) (ls' := [.ref 14, .int x1, .retAddr 0, .int (x3 - (x5 + 1)), .int x4, .int x5]) (st' := [.int (x3 - (x5 + 1))]) (h' := cw nR nN nT X ρ φ) rfl ?_
      refine qr_ge1 (tgt := 74) hC rfl (by decide) rfl (fun hc => ?_) (fun hc => ?_)
      · rw [if_pos hc] at hs
        refine qr_s hC (n := 2) (pc' := 8) (ls' := [.ref 14, .int x1, .retAddr 0, .int (x3 - (x5 + 1)), .int (x4 + 1), .int x5]) (st' := []) (h' := cw nR nN nT X ρ φ) rfl ?_
        exact qr_w (a := [.ref 14, .int x1, .retAddr 0, .int (x3 - (x5 + 1)), .int (x4 + 1), .retAddr 0]) ⟨Or.inr rfl, Or.inr rfl, Or.inr rfl, Or.inr rfl, Or.inr rfl, Or.inl rfl, trivial⟩ (ih0 φ x1 (x3 - (x5 + 1)) (x4 + 1) 0 _ hs)
      · rw [if_neg hc] at hs
        refine qr_s hC (n := 1) (pc' := 73) (ls' := [.ref 14, .int x1, .retAddr 0, .int (x3 - (x5 + 1)), .int x4, .int x5]) (st' := [.int (-1)]) (h' := cw nR nN nT X ρ φ) rfl ?_
        have hs := Option.some.inj hs
        subst hs
        exact qr_r hC rfl rfl
theorem pr_shownByte_L8_n_t0 (F d : Nat) (nR nN nT : Nat) (X : List (Nat × Nat)) (ρ : Nat → Nat → Option Nat) (hd : 4 ≤ d) (n : Nat) (φ : qm_F) (x1 : Int32) (x3 : Int32) (x4 : Int32) (x5 : Int32) (r : Int32) (hs : pr_shownByte_L8 F nR nN nT n 0 φ x1 x3 x4 x5 = some r) : qm_Rn d 216 8 [.ref 14, .int x1, .retAddr 0, .int x3, .int x4, .retAddr 0] [] (cw nR nN nT X ρ φ) (some (.int r), cw nR nN nT X ρ φ) := (pr_shownByte_L8_n0 F d nR nN nT X ρ hd n 0 φ x1 x3 x4 x5 r hs).1 rfl
theorem pr_shownByte_L8_n_t1 (F d : Nat) (nR nN nT : Nat) (X : List (Nat × Nat)) (ρ : Nat → Nat → Option Nat) (hd : 4 ≤ d) (n : Nat) (φ : qm_F) (x1 : Int32) (x3 : Int32) (x4 : Int32) (x5 : Int32) (r : Int32) (hs : pr_shownByte_L8 F nR nN nT n 1 φ x1 x3 x4 x5 = some r) : qm_Rn d 216 61 [.ref 14, .int x1, .retAddr 0, .int x3, .int x4, .int x5] [] (cw nR nN nT X ρ φ) (some (.int r), cw nR nN nT X ρ φ) := (pr_shownByte_L8_n0 F d nR nN nT X ρ hd n 1 φ x1 x3 x4 x5 r hs).2 (by decide)
set_option maxRecDepth 100000 in
theorem pr_shownByte_n (F d : Nat) (nR nN nT : Nat) (X : List (Nat × Nat)) (ρ : Nat → Nat → Option Nat) (φ : qm_F) (x1 : Int32) (x2 : Int32) (r : Int32) (hd : 4 ≤ d) (hs : pr_shownByte F nR nN nT φ x1 x2 = some r) : qm_Rn d 216 0 [.ref 14, .int x1, .int x2, .retAddr 0, .retAddr 0, .retAddr 0] [] (cw nR nN nT X ρ φ) (some (.int r), cw nR nN nT X ρ φ) := by
  obtain ⟨d, rfl⟩ : ∃ e, d = e + 1 := ⟨d - 1, by omega⟩
  have hC := qC_216
  unfold pr_shownByte at hs
  refine qr_s hC (n := 5) (pc' := 8) (ls' := [.ref 14, .int x1, .int x2, .int x2, .int (φ 14 17), .retAddr 0]) (st' := []) (h' := cw nR nN nT X ρ φ) rfl ?_
  exact qr_w (a := [.ref 14, .int x1, .retAddr 0, .int x2, .int (φ 14 17), .retAddr 0]) ⟨Or.inr rfl, Or.inr rfl, Or.inl rfl, Or.inr rfl, Or.inr rfl, Or.inr rfl, trivial⟩ (pr_shownByte_L8_n_t0 F (d + 1) nR nN nT X ρ (by omega) F φ x1 x2 (φ 14 17) 0 _ hs)
/-- SketchFiller.shown(II)I -/
def sf_shown (F : Nat) (nR nN nT gg : Nat) (φ : qm_F) (x1 : Int32) (x2 : Int32) : Option Int32 :=
  qb1 (pr_hasGuess F nR nN nT φ x1) fun y1 =>
  if y1 = 0 then
    some (-1)
  else
    if (-1) ≤ x2 then
      if ¬ x2 = (-1) then
        qb1 (pr_shownByte F nR nN nT φ x1 x2) fun y2 =>
        some y2
      else
        qb1 (pr_shownBytes F nR nN nT φ x1) fun y3 =>
        some y3
    else
      some (-1)
set_option maxRecDepth 100000 in
theorem sf_shown_n (F d : Nat) (nR nN nT gg : Nat) (X : List (Nat × Nat)) (ρ : Nat → Nat → Option Nat) (φ : qm_F) (x1 : Int32) (x2 : Int32) (r : Int32) (hd : 5 ≤ d) (hs : sf_shown F nR nN nT gg φ x1 x2 = some r) : qm_Rn d 28 0 [.ref 0, .int x1, .int x2] [] (cs nR nN nT gg X ρ φ) (some (.int r), cs nR nN nT gg X ρ φ) := by
  obtain ⟨d, rfl⟩ : ∃ e, d = e + 1 := ⟨d - 1, by omega⟩
  have hC := qC_28
  unfold sf_shown at hs
  refine qr_s hC (n := 7) (pc' := 15) (ls' := [.ref 0, .int x1, .int x2]) (st' := [.int x1, .ref 14]) (h' := cs nR nN nT gg X ρ φ) rfl ?_
  obtain ⟨y1, hy, hs⟩ := qb1_s hs
  refine qr_c (j := 204) (as := [.ref 14, .int x1]) (rest := []) (v := some (.int y1)) (h1 := cs nR nN nT gg X ρ φ) hC rfl rfl qC_204 rfl rfl (pr_hasGuess_n F d nR nN nT (cr_X gg (cs_X gg X)) (cr_R (cs_R ρ)) φ x1 _ (by omega) hy) ?_
  show qm_Rn (d + 1) 28 18 [.ref 0, .int x1, .int x2] [.int y1] (cs nR nN nT gg X ρ φ) _
  refine qr_eq1 (tgt := 26) hC rfl (by decide) rfl (fun hc => ?_) (fun hc => ?_)
  · rw [if_pos hc] at hs
    refine qr_s hC (n := 1) (pc' := 27) (ls' := [.ref 0, .int x1, .int x2]) (st' := [.int (-1)]) (h' := cs nR nN nT gg X ρ φ) rfl ?_
    have hs := Option.some.inj hs
    subst hs
    exact qr_r hC rfl rfl
  · rw [if_neg hc] at hs
    refine qr_s hC (n := 2) (pc' := 23) (ls' := [.ref 0, .int x1, .int x2]) (st' := [.int (-1), .int x2]) (h' := cs nR nN nT gg X ρ φ) rfl ?_
    refine qr_ge2 (tgt := 28) hC rfl (by decide) rfl (fun hc => ?_) (fun hc => ?_)
    · rw [if_pos hc] at hs
      refine qr_s hC (n := 2) (pc' := 30) (ls' := [.ref 0, .int x1, .int x2]) (st' := [.int (-1), .int x2]) (h' := cs nR nN nT gg X ρ φ) rfl ?_
      refine qr_ne2 (tgt := 47) hC rfl (by decide) rfl (fun hc => ?_) (fun hc => ?_)
      · rw [if_pos hc] at hs
        refine qr_s hC (n := 5) (pc' := 56) (ls' := [.ref 0, .int x1, .int x2]) (st' := [.int x2, .int x1, .ref 14]) (h' := cs nR nN nT gg X ρ φ) rfl ?_
        obtain ⟨y2, hy, hs⟩ := qb1_s hs
        refine qr_c (j := 216) (as := [.ref 14, .int x1, .int x2]) (rest := []) (v := some (.int y2)) (h1 := cs nR nN nT gg X ρ φ) hC rfl rfl qC_216 rfl rfl (pr_shownByte_n F d nR nN nT (cr_X gg (cs_X gg X)) (cr_R (cs_R ρ)) φ x1 x2 _ (by omega) hy) ?_
        show qm_Rn (d + 1) 28 59 [.ref 0, .int x1, .int x2] [.int y2] (cs nR nN nT gg X ρ φ) _
        have hs := Option.some.inj hs
        subst hs
        exact qr_r hC rfl rfl
      · rw [if_neg hc] at hs
        refine qr_s hC (n := 4) (pc' := 41) (ls' := [.ref 0, .int x1, .int x2]) (st' := [.int x1, .ref 14]) (h' := cs nR nN nT gg X ρ φ) rfl ?_
        obtain ⟨y3, hy, hs⟩ := qb1_s hs
        refine qr_c (j := 215) (as := [.ref 14, .int x1]) (rest := []) (v := some (.int y3)) (h1 := cs nR nN nT gg X ρ φ) hC rfl rfl qC_215 rfl rfl (pr_shownBytes_n F d nR nN nT (cr_X gg (cs_X gg X)) (cr_R (cs_R ρ)) φ x1 _ (by omega) hy) ?_
        show qm_Rn (d + 1) 28 44 [.ref 0, .int x1, .int x2] [.int y3] (cs nR nN nT gg X ρ φ) _
        refine qr_s hC (n := 1) (pc' := 59) (ls' := [.ref 0, .int x1, .int x2]) (st' := [.int y3]) (h' := cs nR nN nT gg X ρ φ) rfl ?_
        have hs := Option.some.inj hs
        subst hs
        exact qr_r hC rfl rfl
    · rw [if_neg hc] at hs
      refine qr_s hC (n := 1) (pc' := 27) (ls' := [.ref 0, .int x1, .int x2]) (st' := [.int (-1)]) (h' := cs nR nN nT gg X ρ φ) rfl ?_
      have hs := Option.some.inj hs
      subst hs
      exact qr_r hC rfl rfl
/-- SketchFiller$Names.slotOf(I)I -/
def na_slotOf_L2 (F : Nat) (nR nN nT : Nat) : Nat → qm_F → Int32 → Int32 → Option Int32
  | 0, _, _, _ => none
  | n + 1, φ, x1, x2 =>
    if (φ 11 2) ≤ x2 then
      some (-1)
    else
      if 15 ≤ x2 then
        some (-1)
      else
        qg (qm_in x2 15) <|
        if ¬ (φ 12 x2.toNatClampNeg) = x1 then
          na_slotOf_L2 F nR nN nT n φ x1 (x2 + 1)
        else
          qg (qm_in x2 15) <|
          some (φ 13 x2.toNatClampNeg)
def na_slotOf (F : Nat) (nR nN nT : Nat) (φ : qm_F) (x1 : Int32) : Option Int32 :=
  na_slotOf_L2 F nR nN nT F φ x1 0
set_option maxRecDepth 100000 in
theorem na_slotOf_L2_n (F d : Nat) (nR nN nT : Nat) (X : List (Nat × Nat)) (ρ : Nat → Nat → Option Nat) (hd : 0 ≤ d) : ∀ (n : Nat) (φ : qm_F) (x1 : Int32) (x2 : Int32) (r : Int32), na_slotOf_L2 F nR nN nT n φ x1 x2 = some r → qm_Rn d 162 2 [.ref 11, .int x1, .int x2] [] (cw nR nN nT X ρ φ) (some (.int r), cw nR nN nT X ρ φ) := by
  have hC := qC_162
  intro n
  induction n with
  | zero => intro φ x1 x2 r hs; simp [na_slotOf_L2] at hs
  | succ n ih =>
    intro φ x1 x2 r hs
    rw [na_slotOf_L2] at hs
    refine qr_s hC (n := 3) (pc' := 7) (ls' := [.ref 11, .int x1, .int x2]) (st' := [.int (φ 11 2), .int x2]) (h' := cw nR nN nT X ρ φ) rfl ?_
    refine qr_ge2 (tgt := 42) hC rfl (by decide) rfl (fun hc => ?_) (fun hc => ?_)
    · rw [if_pos hc] at hs
      refine qr_s hC (n := 1) (pc' := 43) (ls' := [.ref 11, .int x1, .int x2]) (st' := [.int (-1)]) (h' := cw nR nN nT X ρ φ) rfl ?_
      have hs := Option.some.inj hs
      subst hs
      exact qr_r hC rfl rfl
    · rw [if_neg hc] at hs
      refine qr_s hC (n := 4) (pc' := 16) (ls' := [.ref 11, .int x1, .int x2]) (st' := [.int 15, .int x2]) (h' := cw nR nN nT X ρ φ) rfl ?_
      refine qr_ge2 (tgt := 42) hC rfl (by decide) rfl (fun hc => ?_) (fun hc => ?_)
      · rw [if_pos hc] at hs
        refine qr_s hC (n := 1) (pc' := 43) (ls' := [.ref 11, .int x1, .int x2]) (st' := [.int (-1)]) (h' := cw nR nN nT X ρ φ) rfl ?_
        have hs := Option.some.inj hs
        subst hs
        exact qr_r hC rfl rfl
      · rw [if_neg hc] at hs
        refine qr_s hC (n := 3) (pc' := 24) (ls' := [.ref 11, .int x1, .int x2]) (st' := [.int x2, .ref 12]) (h' := cw nR nN nT X ρ φ) rfl ?_
        obtain ⟨hq, hs⟩ := qg_s hs
        refine qr_ia (v := φ 12 x2.toNatClampNeg) hC rfl rfl hq rfl ?_
        refine qr_s hC (n := 1) (pc' := 26) (ls' := [.ref 11, .int x1, .int x2]) (st' := [.int x1, .int (φ 12 x2.toNatClampNeg)]) (h' := cw nR nN nT X ρ φ) rfl ?_
        refine qr_ne2 (tgt := 36) hC rfl (by decide) rfl (fun hc => ?_) (fun hc => ?_)
        · rw [if_pos hc] at hs
          refine qr_s hC (n := 2) (pc' := 2) (ls' := [.ref 11, .int x1, .int (x2 + 1)]) (st' := []) (h' := cw nR nN nT X ρ φ) rfl ?_
          exact ih φ x1 (x2 + 1) _ hs
        · rw [if_neg hc] at hs
          refine qr_s hC (n := 3) (pc' := 34) (ls' := [.ref 11, .int x1, .int x2]) (st' := [.int x2, .ref 13]) (h' := cw nR nN nT X ρ φ) rfl ?_
          obtain ⟨hq, hs⟩ := qg_s hs
          refine qr_ia (v := φ 13 x2.toNatClampNeg) hC rfl rfl hq rfl ?_
          have hs := Option.some.inj hs
          subst hs
          exact qr_r hC rfl rfl
set_option maxRecDepth 100000 in
theorem na_slotOf_n (F d : Nat) (nR nN nT : Nat) (X : List (Nat × Nat)) (ρ : Nat → Nat → Option Nat) (φ : qm_F) (x1 : Int32) (r : Int32) (hd : 0 ≤ d) (hs : na_slotOf F nR nN nT φ x1 = some r) : qm_Rn d 162 0 [.ref 11, .int x1, .retAddr 0] [] (cw nR nN nT X ρ φ) (some (.int r), cw nR nN nT X ρ φ) := by
  have hC := qC_162
  unfold na_slotOf at hs
  refine qr_s hC (n := 2) (pc' := 2) (ls' := [.ref 11, .int x1, .int 0]) (st' := []) (h' := cw nR nN nT X ρ φ) rfl ?_
  exact na_slotOf_L2_n F d nR nN nT X ρ (by omega) F φ x1 0 _ hs
/-- SketchFiller$Names.add(II)V -/
def na_add (F : Nat) (nR nN nT : Nat) (φ : qm_F) (x1 : Int32) (x2 : Int32) : Option qm_F :=
  if 15 ≤ (φ 11 2) then
    some φ
  else
    qg (qm_in (φ 11 2) 15) <|
    qg (qm_in (φ 11 2) 15) <|
    some (qm_u (qm_u (qm_u φ 12 ((φ 11 2).toNatClampNeg) x1) 13 ((φ 11 2).toNatClampNeg) x2) 11 2 ((φ 11 2) + 1))
set_option maxRecDepth 100000 in
theorem na_add_n (F d : Nat) (nR nN nT : Nat) (X : List (Nat × Nat)) (ρ : Nat → Nat → Option Nat) (φ : qm_F) (x1 : Int32) (x2 : Int32) (r : qm_F) (hd : 0 ≤ d) (hs : na_add F nR nN nT φ x1 x2 = some r) : qm_Rn d 163 0 [.ref 11, .int x1, .int x2] [] (cw nR nN nT X ρ φ) (none, cw nR nN nT X ρ r) := by
  have hC := qC_163
  unfold na_add at hs
  refine qr_s hC (n := 5) (pc' := 9) (ls' := [.ref 11, .int x1, .int x2]) (st' := [.int 15, .int (φ 11 2)]) (h' := cw nR nN nT X ρ φ) rfl ?_
  refine qr_ge2 (tgt := 42) hC rfl (by decide) rfl (fun hc => ?_) (fun hc => ?_)
  · rw [if_pos hc] at hs
    have hs := Option.some.inj hs
    subst hs
    exact qr_r hC rfl rfl
  · rw [if_neg hc] at hs
    refine qr_s hC (n := 5) (pc' := 21) (ls' := [.ref 11, .int x1, .int x2]) (st' := [.int x1, .int (φ 11 2), .ref 12]) (h' := cw nR nN nT X ρ φ) rfl ?_
    obtain ⟨hq, hs⟩ := qg_s hs
    refine qr_is (h' := cw nR nN nT X ρ (qm_u φ 12 ((φ 11 2).toNatClampNeg) x1)) hC rfl rfl hq rfl ?_
    refine qr_s hC (n := 5) (pc' := 31) (ls' := [.ref 11, .int x1, .int x2]) (st' := [.int x2, .int (φ 11 2), .ref 13]) (h' := cw nR nN nT X ρ (qm_u φ 12 ((φ 11 2).toNatClampNeg) x1)) rfl ?_
    obtain ⟨hq, hs⟩ := qg_s hs
    refine qr_is (h' := cw nR nN nT X ρ (qm_u (qm_u φ 12 ((φ 11 2).toNatClampNeg) x1) 13 ((φ 11 2).toNatClampNeg) x2)) hC rfl rfl hq rfl ?_
    refine qr_s hC (n := 6) (pc' := 42) (ls' := [.ref 11, .int x1, .int x2]) (st' := []) (h' := cw nR nN nT X ρ (qm_u (qm_u (qm_u φ 12 ((φ 11 2).toNatClampNeg) x1) 13 ((φ 11 2).toNatClampNeg) x2) 11 2 ((φ 11 2) + 1))) rfl ?_
    have hs := Option.some.inj hs
    subst hs
    exact qr_r hC rfl rfl
/-- SketchFiller$Names.removeLatest()V -/
def na_removeLatest (F : Nat) (nR nN nT : Nat) (φ : qm_F) : Option qm_F :=
  if (φ 11 2) ≤ 0 then
    some φ
  else
    some (qm_u φ 11 2 ((φ 11 2) - 1))
set_option maxRecDepth 100000 in
theorem na_removeLatest_n (F d : Nat) (nR nN nT : Nat) (X : List (Nat × Nat)) (ρ : Nat → Nat → Option Nat) (φ : qm_F) (r : qm_F) (hd : 0 ≤ d) (hs : na_removeLatest F nR nN nT φ = some r) : qm_Rn d 164 0 [.ref 11] [] (cw nR nN nT X ρ φ) (none, cw nR nN nT X ρ r) := by
  have hC := qC_164
  unfold na_removeLatest at hs
  refine qr_s hC (n := 2) (pc' := 4) (ls' := [.ref 11]) (st' := [.int (φ 11 2)]) (h' := cw nR nN nT X ρ φ) rfl ?_
  refine qr_le1 (tgt := 17) hC rfl (by decide) rfl (fun hc => ?_) (fun hc => ?_)
  · rw [if_pos hc] at hs
    have hs := Option.some.inj hs
    subst hs
    exact qr_r hC rfl rfl
  · rw [if_neg hc] at hs
    refine qr_s hC (n := 6) (pc' := 17) (ls' := [.ref 11]) (st' := []) (h' := cw nR nN nT X ρ (qm_u φ 11 2 ((φ 11 2) - 1))) rfl ?_
    have hs := Option.some.inj hs
    subst hs
    exact qr_r hC rfl rfl
/-- SketchFiller$Parser.fault()I -/
def pa_fault (F : Nat) (nR nN nT : Nat) (φ : qm_F) : Option Int32 :=
  some (φ 10 5)
set_option maxRecDepth 100000 in
theorem pa_fault_n (F d : Nat) (nR nN nT : Nat) (X : List (Nat × Nat)) (ρ : Nat → Nat → Option Nat) (φ : qm_F) (r : Int32) (hd : 0 ≤ d) (hs : pa_fault F nR nN nT φ = some r) : qm_Rn d 166 0 [.ref 10] [] (cw nR nN nT X ρ φ) (some (.int r), cw nR nN nT X ρ φ) := by
  have hC := qC_166
  unfold pa_fault at hs
  refine qr_s hC (n := 2) (pc' := 4) (ls' := [.ref 10]) (st' := [.int (φ 10 5)]) (h' := cw nR nN nT X ρ φ) rfl ?_
  have hs := Option.some.inj hs
  subst hs
  exact qr_r hC rfl rfl
/-- SketchFiller$Parser.program()LSketchFiller$Program; -/
def pa_program (F : Nat) (nR nN nT : Nat) (φ : qm_F) : Option Unit :=
  some ()
set_option maxRecDepth 100000 in
theorem pa_program_n (F d : Nat) (nR nN nT : Nat) (X : List (Nat × Nat)) (ρ : Nat → Nat → Option Nat) (φ : qm_F) (r : Unit) (hd : 0 ≤ d) (hs : pa_program F nR nN nT φ = some r) : qm_Rn d 167 0 [.ref 10] [] (cw nR nN nT X ρ φ) (some (.ref 14), cw nR nN nT X ρ φ) := by
  have hC := qC_167
  unfold pa_program at hs
  refine qr_s hC (n := 2) (pc' := 4) (ls' := [.ref 10]) (st' := [.ref 14]) (h' := cw nR nN nT X ρ φ) rfl ?_
  have hs := Option.some.inj hs
  subst hs
  exact qr_r hC rfl rfl
/-- SketchFiller$Parser.kind()I -/
def pa_kind (F : Nat) (nR nN nT : Nat) (φ : qm_F) : Option Int32 :=
  qb1 (to_kindOf F nR nN φ (φ 10 3)) fun y1 =>
  some y1
set_option maxRecDepth 100000 in
theorem pa_kind_n (F d : Nat) (nR nN nT : Nat) (X : List (Nat × Nat)) (ρ : Nat → Nat → Option Nat) (φ : qm_F) (r : Int32) (hd : 1 ≤ d) (hs : pa_kind F nR nN nT φ = some r) : qm_Rn d 169 0 [.ref 10] [] (cw nR nN nT X ρ φ) (some (.int r), cw nR nN nT X ρ φ) := by
  obtain ⟨d, rfl⟩ : ∃ e, d = e + 1 := ⟨d - 1, by omega⟩
  have hC := qC_169
  unfold pa_kind at hs
  refine qr_s hC (n := 4) (pc' := 8) (ls' := [.ref 10]) (st' := [.int (φ 10 3), .ref 4]) (h' := cw nR nN nT X ρ φ) rfl ?_
  obtain ⟨y1, hy, hs⟩ := qb1_s hs
  refine qr_c (j := 265) (as := [.ref 4, .int (φ 10 3)]) (rest := []) (v := some (.int y1)) (h1 := cw nR nN nT X ρ φ) hC rfl rfl qC_265 rfl rfl (to_kindOf_n F d nR nN (cw_X nT X) (cw_R ρ) φ (φ 10 3) _ (by omega) hy) ?_
  show qm_Rn (d + 1) 169 11 [.ref 10] [.int y1] (cw nR nN nT X ρ φ) _
  have hs := Option.some.inj hs
  subst hs
  exact qr_r hC rfl rfl
/-- SketchFiller$Parser.fail(I)Z -/
def pa_fail (F : Nat) (nR nN nT : Nat) (φ : qm_F) (x1 : Int32) : Option (Int32 × qm_F) :=
  qb1 (to_placeOf F nR nN φ (φ 10 3)) fun y1 =>
  some (0, (qm_u φ 10 5 ((8 * y1) + x1)))
set_option maxRecDepth 100000 in
theorem pa_fail_n (F d : Nat) (nR nN nT : Nat) (X : List (Nat × Nat)) (ρ : Nat → Nat → Option Nat) (φ : qm_F) (x1 : Int32) (r : (Int32 × qm_F)) (hd : 1 ≤ d) (hs : pa_fail F nR nN nT φ x1 = some r) : qm_Rn d 170 0 [.ref 10, .int x1] [] (cw nR nN nT X ρ φ) (some (.int r.1), cw nR nN nT X ρ r.2) := by
  obtain ⟨d, rfl⟩ : ∃ e, d = e + 1 := ⟨d - 1, by omega⟩
  have hC := qC_170
  unfold pa_fail at hs
  refine qr_s hC (n := 6) (pc' := 11) (ls' := [.ref 10, .int x1]) (st' := [.int (φ 10 3), .ref 4, .int 8, .ref 10]) (h' := cw nR nN nT X ρ φ) rfl ?_
  obtain ⟨y1, hy, hs⟩ := qb1_s hs
  refine qr_c (j := 266) (as := [.ref 4, .int (φ 10 3)]) (rest := [.int 8, .ref 10]) (v := some (.int y1)) (h1 := cw nR nN nT X ρ φ) hC rfl rfl qC_266 rfl rfl (to_placeOf_n F d nR nN (cw_X nT X) (cw_R ρ) φ (φ 10 3) _ (by omega) hy) ?_
  show qm_Rn (d + 1) 170 14 [.ref 10, .int x1] [.int y1, .int 8, .ref 10] (cw nR nN nT X ρ φ) _
  refine qr_s hC (n := 5) (pc' := 21) (ls' := [.ref 10, .int x1]) (st' := [.int 0]) (h' := cw nR nN nT X ρ (qm_u φ 10 5 ((8 * y1) + x1))) rfl ?_
  have hs := Option.some.inj hs
  subst hs
  exact qr_r hC rfl rfl
/-- SketchFiller$Parser.take(I)Z -/
def pa_take (F : Nat) (nR nN nT : Nat) (φ : qm_F) (x1 : Int32) : Option (Int32 × qm_F) :=
  qb1 (pa_kind F nR nN nT φ) fun y1 =>
  if y1 = x1 then
    some (1, (qm_u φ 10 3 ((φ 10 3) + 1)))
  else
    qb2 (pa_fail F nR nN nT φ 1) fun y2 φ1 =>
    qg (qm_bz y2) (some (y2, φ1))
set_option maxRecDepth 100000 in
theorem pa_take_n (F d : Nat) (nR nN nT : Nat) (X : List (Nat × Nat)) (ρ : Nat → Nat → Option Nat) (φ : qm_F) (x1 : Int32) (r : (Int32 × qm_F)) (hd : 2 ≤ d) (hs : pa_take F nR nN nT φ x1 = some r) : qm_Rn d 171 0 [.ref 10, .int x1] [] (cw nR nN nT X ρ φ) (some (.int r.1), cw nR nN nT X ρ r.2) := by
  obtain ⟨d, rfl⟩ : ∃ e, d = e + 1 := ⟨d - 1, by omega⟩
  have hC := qC_171
  unfold pa_take at hs
  refine qr_s hC (n := 1) (pc' := 1) (ls' := [.ref 10, .int x1]) (st' := [.ref 10]) (h' := cw nR nN nT X ρ φ) rfl ?_
  obtain ⟨y1, hy, hs⟩ := qb1_s hs
  refine qr_c (j := 169) (as := [.ref 10]) (rest := []) (v := some (.int y1)) (h1 := cw nR nN nT X ρ φ) hC rfl rfl qC_169 rfl rfl (pa_kind_n F d nR nN nT X ρ φ _ (by omega) hy) ?_
  show qm_Rn (d + 1) 171 4 [.ref 10, .int x1] [.int y1] (cw nR nN nT X ρ φ) _
  refine qr_s hC (n := 1) (pc' := 5) (ls' := [.ref 10, .int x1]) (st' := [.int x1, .int y1]) (h' := cw nR nN nT X ρ φ) rfl ?_
  refine qr_eq2 (tgt := 14) hC rfl (by decide) rfl (fun hc => ?_) (fun hc => ?_)
  · rw [if_pos hc] at hs
    refine qr_s hC (n := 7) (pc' := 25) (ls' := [.ref 10, .int x1]) (st' := [.int 1]) (h' := cw nR nN nT X ρ (qm_u φ 10 3 ((φ 10 3) + 1))) rfl ?_
    have hs := Option.some.inj hs
    subst hs
    exact qr_r hC rfl rfl
  · rw [if_neg hc] at hs
    refine qr_s hC (n := 2) (pc' := 10) (ls' := [.ref 10, .int x1]) (st' := [.int 1, .ref 10]) (h' := cw nR nN nT X ρ φ) rfl ?_
    obtain ⟨y2, φ1, hy, hs⟩ := qb2_s hs
    refine qr_c (j := 170) (as := [.ref 10, .int 1]) (rest := []) (v := some (.int y2)) (h1 := cw nR nN nT X ρ φ1) hC rfl rfl qC_170 rfl rfl (pa_fail_n F d nR nN nT X ρ φ 1 _ (by omega) hy) ?_
    show qm_Rn (d + 1) 171 13 [.ref 10, .int x1] [.int y2] (cw nR nN nT X ρ φ1) _
    obtain ⟨hz, hs⟩ := qg_s hs
    have hs := Option.some.inj hs
    subst hs
    exact qr_rz hC rfl hz
/-- SketchFiller$Parser.takeNumber(II)Z -/
def pa_takeNumber_L46 (F : Nat) (nR nN nT : Nat) (φ : qm_F) : Option (Int32 × qm_F) :=
  qb2 (pa_fail F nR nN nT φ 4) fun y1 φ1 =>
  qg (qm_bz y1) (some (y1, φ1))
def pa_takeNumber (F : Nat) (nR nN nT : Nat) (φ : qm_F) (x1 : Int32) (x2 : Int32) : Option (Int32 × qm_F) :=
  qb1 (pa_kind F nR nN nT φ) fun y1 =>
  if y1 = 48 then
    qb1 (to_numberOf F nR nN φ (φ 10 3)) fun y2 =>
    if y2 < x1 then
      pa_takeNumber_L46 F nR nN nT (qm_u φ 10 4 y2)
    else
      if y2 ≤ x2 then
        some (1, (qm_u (qm_u φ 10 4 y2) 10 3 ((φ 10 3) + 1)))
      else
        pa_takeNumber_L46 F nR nN nT (qm_u φ 10 4 y2)
  else
    qb2 (pa_fail F nR nN nT φ 1) fun y3 φ1 =>
    qg (qm_bz y3) (some (y3, φ1))
set_option maxRecDepth 100000 in
theorem pa_takeNumber_L46_n (F d : Nat) (nR nN nT : Nat) (X : List (Nat × Nat)) (ρ : Nat → Nat → Option Nat) (hd : 2 ≤ d) (φ : qm_F) (r : (Int32 × qm_F)) (hs : pa_takeNumber_L46 F nR nN nT φ = some r) : qm_Rn d 172 46 [.ref 10, .retAddr 0, .retAddr 0] [] (cw nR nN nT X ρ φ) (some (.int r.1), cw nR nN nT X ρ r.2) := by
  obtain ⟨d, rfl⟩ : ∃ e, d = e + 1 := ⟨d - 1, by omega⟩
  have hC := qC_172
  unfold pa_takeNumber_L46 at hs
  refine qr_s hC (n := 2) (pc' := 48) (ls' := [.ref 10, .retAddr 0, .retAddr 0]) (st' := [.int 4, .ref 10]) (h' := cw nR nN nT X ρ φ) rfl ?_
  obtain ⟨y1, φ1, hy, hs⟩ := qb2_s hs
  refine qr_c (j := 170) (as := [.ref 10, .int 4]) (rest := []) (v := some (.int y1)) (h1 := cw nR nN nT X ρ φ1) hC rfl rfl qC_170 rfl rfl (pa_fail_n F d nR nN nT X ρ φ 4 _ (by omega) hy) ?_
  show qm_Rn (d + 1) 172 51 [.ref 10, .retAddr 0, .retAddr 0] [.int y1] (cw nR nN nT X ρ φ1) _
  obtain ⟨hz, hs⟩ := qg_s hs
  have hs := Option.some.inj hs
  subst hs
  exact qr_rz hC rfl hz
set_option maxRecDepth 100000 in
theorem pa_takeNumber_n (F d : Nat) (nR nN nT : Nat) (X : List (Nat × Nat)) (ρ : Nat → Nat → Option Nat) (φ : qm_F) (x1 : Int32) (x2 : Int32) (r : (Int32 × qm_F)) (hd : 2 ≤ d) (hs : pa_takeNumber F nR nN nT φ x1 x2 = some r) : qm_Rn d 172 0 [.ref 10, .int x1, .int x2] [] (cw nR nN nT X ρ φ) (some (.int r.1), cw nR nN nT X ρ r.2) := by
  obtain ⟨d, rfl⟩ : ∃ e, d = e + 1 := ⟨d - 1, by omega⟩
  have hC := qC_172
  unfold pa_takeNumber at hs
  refine qr_s hC (n := 1) (pc' := 1) (ls' := [.ref 10, .int x1, .int x2]) (st' := [.ref 10]) (h' := cw nR nN nT X ρ φ) rfl ?_
  obtain ⟨y1, hy, hs⟩ := qb1_s hs
  refine qr_c (j := 169) (as := [.ref 10]) (rest := []) (v := some (.int y1)) (h1 := cw nR nN nT X ρ φ) hC rfl rfl qC_169 rfl rfl (pa_kind_n F d nR nN nT X ρ φ _ (by omega) hy) ?_
  show qm_Rn (d + 1) 172 4 [.ref 10, .int x1, .int x2] [.int y1] (cw nR nN nT X ρ φ) _
  refine qr_s hC (n := 1) (pc' := 6) (ls' := [.ref 10, .int x1, .int x2]) (st' := [.int 48, .int y1]) (h' := cw nR nN nT X ρ φ) rfl ?_
  refine qr_eq2 (tgt := 15) hC rfl (by decide) rfl (fun hc => ?_) (fun hc => ?_)
  · rw [if_pos hc] at hs
    refine qr_s hC (n := 5) (pc' := 24) (ls' := [.ref 10, .int x1, .int x2]) (st' := [.int (φ 10 3), .ref 4, .ref 10]) (h' := cw nR nN nT X ρ φ) rfl ?_
    obtain ⟨y2, hy, hs⟩ := qb1_s hs
    refine qr_c (j := 267) (as := [.ref 4, .int (φ 10 3)]) (rest := [.ref 10]) (v := some (.int y2)) (h1 := cw nR nN nT X ρ φ) hC rfl rfl qC_267 rfl rfl (to_numberOf_n F d nR nN (cw_X nT X) (cw_R ρ) φ (φ 10 3) _ (by omega) hy) ?_
    show qm_Rn (d + 1) 172 27 [.ref 10, .int x1, .int x2] [.int y2, .ref 10] (cw nR nN nT X ρ φ) _
    refine qr_s hC (n := 4) (pc' := 35) (ls' := [.ref 10, .int x1, .int x2]) (st' := [.int x1, .int y2]) (h' := cw nR nN nT X ρ (qm_u φ 10 4 y2)) rfl ?_
    refine qr_lt2 (tgt := 46) hC rfl (by decide) rfl (fun hc => ?_) (fun hc => ?_)
    · rw [if_pos hc] at hs
      exact qr_w (a := [.ref 10, .retAddr 0, .retAddr 0]) ⟨Or.inr rfl, Or.inl rfl, Or.inl rfl, trivial⟩ (pa_takeNumber_L46_n F (d + 1) nR nN nT X ρ (by omega) (qm_u φ 10 4 y2) _ hs)
    · rw [if_neg hc] at hs
      refine qr_s hC (n := 3) (pc' := 43) (ls' := [.ref 10, .int x1, .int x2]) (st' := [.int x2, .int y2]) (h' := cw nR nN nT X ρ (qm_u φ 10 4 y2)) rfl ?_
      refine qr_le2 (tgt := 52) hC rfl (by decide) rfl (fun hc => ?_) (fun hc => ?_)
      · rw [if_pos hc] at hs
        refine qr_s hC (n := 7) (pc' := 63) (ls' := [.ref 10, .int x1, .int x2]) (st' := [.int 1]) (h' := cw nR nN nT X ρ (qm_u (qm_u φ 10 4 y2) 10 3 ((φ 10 3) + 1))) rfl ?_
        have hs := Option.some.inj hs
        subst hs
        exact qr_r hC rfl rfl
      · rw [if_neg hc] at hs
        exact qr_w (a := [.ref 10, .retAddr 0, .retAddr 0]) ⟨Or.inr rfl, Or.inl rfl, Or.inl rfl, trivial⟩ (pa_takeNumber_L46_n F (d + 1) nR nN nT X ρ (by omega) (qm_u φ 10 4 y2) _ hs)
  · rw [if_neg hc] at hs
    refine qr_s hC (n := 2) (pc' := 11) (ls' := [.ref 10, .int x1, .int x2]) (st' := [.int 1, .ref 10]) (h' := cw nR nN nT X ρ φ) rfl ?_
    obtain ⟨y3, φ1, hy, hs⟩ := qb2_s hs
    refine qr_c (j := 170) (as := [.ref 10, .int 1]) (rest := []) (v := some (.int y3)) (h1 := cw nR nN nT X ρ φ1) hC rfl rfl qC_170 rfl rfl (pa_fail_n F d nR nN nT X ρ φ 1 _ (by omega) hy) ?_
    show qm_Rn (d + 1) 172 14 [.ref 10, .int x1, .int x2] [.int y3] (cw nR nN nT X ρ φ1) _
    obtain ⟨hz, hs⟩ := qg_s hs
    have hs := Option.some.inj hs
    subst hs
    exact qr_rz hC rfl hz
/-- SketchFiller$Parser.takeBits(I)Z -/
def pa_takeBits_L61 (F : Nat) (nR nN nT : Nat) (φ : qm_F) : Option (Int32 × qm_F) :=
  qb2 (pa_fail F nR nN nT φ 4) fun y1 φ1 =>
  qg (qm_bz y1) (some (y1, φ1))
def pa_takeBits (F : Nat) (nR nN nT : Nat) (φ : qm_F) (x1 : Int32) : Option (Int32 × qm_F) :=
  qb1 (pa_kind F nR nN nT φ) fun y1 =>
  if y1 = 48 then
    qb1 (to_numberOf F nR nN φ (φ 10 3)) fun y2 =>
    if y2 < 1 then
      pa_takeBits_L61 F nR nN nT (qm_u φ 10 4 y2)
    else
      if 6 < y2 then
        pa_takeBits_L61 F nR nN nT (qm_u φ 10 4 y2)
      else
        if y2 ≤ (φ 14 0) then
          if (x1 + y2) ≤ 7 then
            some (1, (qm_u (qm_u φ 10 4 y2) 10 3 ((φ 10 3) + 1)))
          else
            qb2 (pa_fail F nR nN nT (qm_u φ 10 4 y2) 5) fun y3 φ1 =>
            qg (qm_bz y3) (some (y3, φ1))
        else
          pa_takeBits_L61 F nR nN nT (qm_u φ 10 4 y2)
  else
    qb2 (pa_fail F nR nN nT φ 1) fun y4 φ2 =>
    qg (qm_bz y4) (some (y4, φ2))
set_option maxRecDepth 100000 in
theorem pa_takeBits_L61_n (F d : Nat) (nR nN nT : Nat) (X : List (Nat × Nat)) (ρ : Nat → Nat → Option Nat) (hd : 2 ≤ d) (φ : qm_F) (r : (Int32 × qm_F)) (hs : pa_takeBits_L61 F nR nN nT φ = some r) : qm_Rn d 173 61 [.ref 10, .retAddr 0] [] (cw nR nN nT X ρ φ) (some (.int r.1), cw nR nN nT X ρ r.2) := by
  obtain ⟨d, rfl⟩ : ∃ e, d = e + 1 := ⟨d - 1, by omega⟩
  have hC := qC_173
  unfold pa_takeBits_L61 at hs
  refine qr_s hC (n := 2) (pc' := 63) (ls' := [.ref 10, .retAddr 0]) (st' := [.int 4, .ref 10]) (h' := cw nR nN nT X ρ φ) rfl ?_
  obtain ⟨y1, φ1, hy, hs⟩ := qb2_s hs
  refine qr_c (j := 170) (as := [.ref 10, .int 4]) (rest := []) (v := some (.int y1)) (h1 := cw nR nN nT X ρ φ1) hC rfl rfl qC_170 rfl rfl (pa_fail_n F d nR nN nT X ρ φ 4 _ (by omega) hy) ?_
  show qm_Rn (d + 1) 173 66 [.ref 10, .retAddr 0] [.int y1] (cw nR nN nT X ρ φ1) _
  obtain ⟨hz, hs⟩ := qg_s hs
  have hs := Option.some.inj hs
  subst hs
  exact qr_rz hC rfl hz
set_option maxRecDepth 100000 in
theorem pa_takeBits_n (F d : Nat) (nR nN nT : Nat) (X : List (Nat × Nat)) (ρ : Nat → Nat → Option Nat) (φ : qm_F) (x1 : Int32) (r : (Int32 × qm_F)) (hd : 2 ≤ d) (hs : pa_takeBits F nR nN nT φ x1 = some r) : qm_Rn d 173 0 [.ref 10, .int x1] [] (cw nR nN nT X ρ φ) (some (.int r.1), cw nR nN nT X ρ r.2) := by
  obtain ⟨d, rfl⟩ : ∃ e, d = e + 1 := ⟨d - 1, by omega⟩
  have hC := qC_173
  unfold pa_takeBits at hs
  refine qr_s hC (n := 1) (pc' := 1) (ls' := [.ref 10, .int x1]) (st' := [.ref 10]) (h' := cw nR nN nT X ρ φ) rfl ?_
  obtain ⟨y1, hy, hs⟩ := qb1_s hs
  refine qr_c (j := 169) (as := [.ref 10]) (rest := []) (v := some (.int y1)) (h1 := cw nR nN nT X ρ φ) hC rfl rfl qC_169 rfl rfl (pa_kind_n F d nR nN nT X ρ φ _ (by omega) hy) ?_
  show qm_Rn (d + 1) 173 4 [.ref 10, .int x1] [.int y1] (cw nR nN nT X ρ φ) _
  refine qr_s hC (n := 1) (pc' := 6) (ls' := [.ref 10, .int x1]) (st' := [.int 48, .int y1]) (h' := cw nR nN nT X ρ φ) rfl ?_
  refine qr_eq2 (tgt := 15) hC rfl (by decide) rfl (fun hc => ?_) (fun hc => ?_)
  · rw [if_pos hc] at hs
    refine qr_s hC (n := 5) (pc' := 24) (ls' := [.ref 10, .int x1]) (st' := [.int (φ 10 3), .ref 4, .ref 10]) (h' := cw nR nN nT X ρ φ) rfl ?_
    obtain ⟨y2, hy, hs⟩ := qb1_s hs
    refine qr_c (j := 267) (as := [.ref 4, .int (φ 10 3)]) (rest := [.ref 10]) (v := some (.int y2)) (h1 := cw nR nN nT X ρ φ) hC rfl rfl qC_267 rfl rfl (to_numberOf_n F d nR nN (cw_X nT X) (cw_R ρ) φ (φ 10 3) _ (by omega) hy) ?_
    show qm_Rn (d + 1) 173 27 [.ref 10, .int x1] [.int y2, .ref 10] (cw nR nN nT X ρ φ) _
    refine qr_s hC (n := 4) (pc' := 35) (ls' := [.ref 10, .int x1]) (st' := [.int 1, .int y2]) (h' := cw nR nN nT X ρ (qm_u φ 10 4 y2)) rfl ?_
    refine qr_lt2 (tgt := 61) hC rfl (by decide) rfl (fun hc => ?_) (fun hc => ?_)
    · rw [if_pos hc] at hs
      exact qr_w (a := [.ref 10, .retAddr 0]) ⟨Or.inr rfl, Or.inl rfl, trivial⟩ (pa_takeBits_L61_n F (d + 1) nR nN nT X ρ (by omega) (qm_u φ 10 4 y2) _ hs)
    · rw [if_neg hc] at hs
      refine qr_s hC (n := 3) (pc' := 44) (ls' := [.ref 10, .int x1]) (st' := [.int 6, .int y2]) (h' := cw nR nN nT X ρ (qm_u φ 10 4 y2)) rfl ?_
      refine qr_gt2 (tgt := 61) hC rfl (by decide) rfl (fun hc => ?_) (fun hc => ?_)
      · rw [if_pos hc] at hs
        exact qr_w (a := [.ref 10, .retAddr 0]) ⟨Or.inr rfl, Or.inl rfl, trivial⟩ (pa_takeBits_L61_n F (d + 1) nR nN nT X ρ (by omega) (qm_u φ 10 4 y2) _ hs)
      · rw [if_neg hc] at hs
        refine qr_s hC (n := 5) (pc' := 58) (ls' := [.ref 10, .int x1]) (st' := [.int (φ 14 0), .int y2]) (h' := cw nR nN nT X ρ (qm_u φ 10 4 y2)) rfl ?_
        refine qr_le2 (tgt := 67) hC rfl (by decide) rfl (fun hc => ?_) (fun hc => ?_)
        · rw [if_pos hc] at hs
          refine qr_s hC (n := 5) (pc' := 75) (ls' := [.ref 10, .int x1]) (st' := [.int 7, .int (x1 + y2)]) (h' := cw nR nN nT X ρ (qm_u φ 10 4 y2)) rfl ?_
          refine qr_le2 (tgt := 84) hC rfl (by decide) rfl (fun hc => ?_) (fun hc => ?_)
          · rw [if_pos hc] at hs
            refine qr_s hC (n := 7) (pc' := 95) (ls' := [.ref 10, .int x1]) (st' := [.int 1]) (h' := cw nR nN nT X ρ (qm_u (qm_u φ 10 4 y2) 10 3 ((φ 10 3) + 1))) rfl ?_
            have hs := Option.some.inj hs
            subst hs
            exact qr_r hC rfl rfl
          · rw [if_neg hc] at hs
            refine qr_s hC (n := 2) (pc' := 80) (ls' := [.ref 10, .int x1]) (st' := [.int 5, .ref 10]) (h' := cw nR nN nT X ρ (qm_u φ 10 4 y2)) rfl ?_
            obtain ⟨y3, φ1, hy, hs⟩ := qb2_s hs
            refine qr_c (j := 170) (as := [.ref 10, .int 5]) (rest := []) (v := some (.int y3)) (h1 := cw nR nN nT X ρ φ1) hC rfl rfl qC_170 rfl rfl (pa_fail_n F d nR nN nT X ρ (qm_u φ 10 4 y2) 5 _ (by omega) hy) ?_
            show qm_Rn (d + 1) 173 83 [.ref 10, .int x1] [.int y3] (cw nR nN nT X ρ φ1) _
            obtain ⟨hz, hs⟩ := qg_s hs
            have hs := Option.some.inj hs
            subst hs
            exact qr_rz hC rfl hz
        · rw [if_neg hc] at hs
          exact qr_w (a := [.ref 10, .retAddr 0]) ⟨Or.inr rfl, Or.inl rfl, trivial⟩ (pa_takeBits_L61_n F (d + 1) nR nN nT X ρ (by omega) (qm_u φ 10 4 y2) _ hs)
  · rw [if_neg hc] at hs
    refine qr_s hC (n := 2) (pc' := 11) (ls' := [.ref 10, .int x1]) (st' := [.int 1, .ref 10]) (h' := cw nR nN nT X ρ φ) rfl ?_
    obtain ⟨y4, φ2, hy, hs⟩ := qb2_s hs
    refine qr_c (j := 170) (as := [.ref 10, .int 1]) (rest := []) (v := some (.int y4)) (h1 := cw nR nN nT X ρ φ2) hC rfl rfl qC_170 rfl rfl (pa_fail_n F d nR nN nT X ρ φ 1 _ (by omega) hy) ?_
    show qm_Rn (d + 1) 173 14 [.ref 10, .int x1] [.int y4] (cw nR nN nT X ρ φ2) _
    obtain ⟨hz, hs⟩ := qg_s hs
    have hs := Option.some.inj hs
    subst hs
    exact qr_rz hC rfl hz
/-- SketchFiller$Parser.takeNewName()Z -/
def pa_takeNewName (F : Nat) (nR nN nT : Nat) (φ : qm_F) : Option (Int32 × qm_F) :=
  qb1 (pa_kind F nR nN nT φ) fun y1 =>
  if y1 = 97 then
    qb1 (to_numberOf F nR nN φ (φ 10 3)) fun y2 =>
    qb1 (na_slotOf F nR nN nT (qm_u φ 10 4 y2) y2) fun y3 =>
    if y3 = (-1) then
      some (1, (qm_u (qm_u φ 10 4 y2) 10 3 ((φ 10 3) + 1)))
    else
      qb2 (pa_fail F nR nN nT (qm_u φ 10 4 y2) 3) fun y4 φ1 =>
      qg (qm_bz y4) (some (y4, φ1))
  else
    qb2 (pa_fail F nR nN nT φ 1) fun y5 φ2 =>
    qg (qm_bz y5) (some (y5, φ2))
set_option maxRecDepth 100000 in
theorem pa_takeNewName_n (F d : Nat) (nR nN nT : Nat) (X : List (Nat × Nat)) (ρ : Nat → Nat → Option Nat) (φ : qm_F) (r : (Int32 × qm_F)) (hd : 2 ≤ d) (hs : pa_takeNewName F nR nN nT φ = some r) : qm_Rn d 174 0 [.ref 10] [] (cw nR nN nT X ρ φ) (some (.int r.1), cw nR nN nT X ρ r.2) := by
  obtain ⟨d, rfl⟩ : ∃ e, d = e + 1 := ⟨d - 1, by omega⟩
  have hC := qC_174
  unfold pa_takeNewName at hs
  refine qr_s hC (n := 1) (pc' := 1) (ls' := [.ref 10]) (st' := [.ref 10]) (h' := cw nR nN nT X ρ φ) rfl ?_
  obtain ⟨y1, hy, hs⟩ := qb1_s hs
  refine qr_c (j := 169) (as := [.ref 10]) (rest := []) (v := some (.int y1)) (h1 := cw nR nN nT X ρ φ) hC rfl rfl qC_169 rfl rfl (pa_kind_n F d nR nN nT X ρ φ _ (by omega) hy) ?_
  show qm_Rn (d + 1) 174 4 [.ref 10] [.int y1] (cw nR nN nT X ρ φ) _
  refine qr_s hC (n := 1) (pc' := 6) (ls' := [.ref 10]) (st' := [.int 97, .int y1]) (h' := cw nR nN nT X ρ φ) rfl ?_
  refine qr_eq2 (tgt := 15) hC rfl (by decide) rfl (fun hc => ?_) (fun hc => ?_)
  · rw [if_pos hc] at hs
    refine qr_s hC (n := 5) (pc' := 24) (ls' := [.ref 10]) (st' := [.int (φ 10 3), .ref 4, .ref 10]) (h' := cw nR nN nT X ρ φ) rfl ?_
    obtain ⟨y2, hy, hs⟩ := qb1_s hs
    refine qr_c (j := 267) (as := [.ref 4, .int (φ 10 3)]) (rest := [.ref 10]) (v := some (.int y2)) (h1 := cw nR nN nT X ρ φ) hC rfl rfl qC_267 rfl rfl (to_numberOf_n F d nR nN (cw_X nT X) (cw_R ρ) φ (φ 10 3) _ (by omega) hy) ?_
    show qm_Rn (d + 1) 174 27 [.ref 10] [.int y2, .ref 10] (cw nR nN nT X ρ φ) _
    refine qr_s hC (n := 5) (pc' := 38) (ls' := [.ref 10]) (st' := [.int y2, .ref 11]) (h' := cw nR nN nT X ρ (qm_u φ 10 4 y2)) rfl ?_
    obtain ⟨y3, hy, hs⟩ := qb1_s hs
    refine qr_c (j := 162) (as := [.ref 11, .int y2]) (rest := []) (v := some (.int y3)) (h1 := cw nR nN nT X ρ (qm_u φ 10 4 y2)) hC rfl rfl qC_162 rfl rfl (na_slotOf_n F d nR nN nT X ρ (qm_u φ 10 4 y2) y2 _ (by omega) hy) ?_
    show qm_Rn (d + 1) 174 41 [.ref 10] [.int y3] (cw nR nN nT X ρ (qm_u φ 10 4 y2)) _
    refine qr_s hC (n := 1) (pc' := 42) (ls' := [.ref 10]) (st' := [.int (-1), .int y3]) (h' := cw nR nN nT X ρ (qm_u φ 10 4 y2)) rfl ?_
    refine qr_eq2 (tgt := 51) hC rfl (by decide) rfl (fun hc => ?_) (fun hc => ?_)
    · rw [if_pos hc] at hs
      refine qr_s hC (n := 7) (pc' := 62) (ls' := [.ref 10]) (st' := [.int 1]) (h' := cw nR nN nT X ρ (qm_u (qm_u φ 10 4 y2) 10 3 ((φ 10 3) + 1))) rfl ?_
      have hs := Option.some.inj hs
      subst hs
      exact qr_r hC rfl rfl
    · rw [if_neg hc] at hs
      refine qr_s hC (n := 2) (pc' := 47) (ls' := [.ref 10]) (st' := [.int 3, .ref 10]) (h' := cw nR nN nT X ρ (qm_u φ 10 4 y2)) rfl ?_
      obtain ⟨y4, φ1, hy, hs⟩ := qb2_s hs
      refine qr_c (j := 170) (as := [.ref 10, .int 3]) (rest := []) (v := some (.int y4)) (h1 := cw nR nN nT X ρ φ1) hC rfl rfl qC_170 rfl rfl (pa_fail_n F d nR nN nT X ρ (qm_u φ 10 4 y2) 3 _ (by omega) hy) ?_
      show qm_Rn (d + 1) 174 50 [.ref 10] [.int y4] (cw nR nN nT X ρ φ1) _
      obtain ⟨hz, hs⟩ := qg_s hs
      have hs := Option.some.inj hs
      subst hs
      exact qr_rz hC rfl hz
  · rw [if_neg hc] at hs
    refine qr_s hC (n := 2) (pc' := 11) (ls' := [.ref 10]) (st' := [.int 1, .ref 10]) (h' := cw nR nN nT X ρ φ) rfl ?_
    obtain ⟨y5, φ2, hy, hs⟩ := qb2_s hs
    refine qr_c (j := 170) (as := [.ref 10, .int 1]) (rest := []) (v := some (.int y5)) (h1 := cw nR nN nT X ρ φ2) hC rfl rfl qC_170 rfl rfl (pa_fail_n F d nR nN nT X ρ φ 1 _ (by omega) hy) ?_
    show qm_Rn (d + 1) 174 14 [.ref 10] [.int y5] (cw nR nN nT X ρ φ2) _
    obtain ⟨hz, hs⟩ := qg_s hs
    have hs := Option.some.inj hs
    subst hs
    exact qr_rz hC rfl hz
/-- SketchFiller$Program.addIn(I)V -/
def pr_addIn (F : Nat) (nR nN nT : Nat) (φ : qm_F) (x1 : Int32) : Option qm_F :=
  if 3 ≤ (φ 14 1) then
    some φ
  else
    qg (qm_in (φ 14 1) 3) <|
    some (qm_u (qm_u (qm_u φ 15 ((φ 14 1).toNatClampNeg) x1) 14 5 ((φ 14 5) + x1)) 14 1 ((φ 14 1) + 1))
set_option maxRecDepth 100000 in
theorem pr_addIn_n (F d : Nat) (nR nN nT : Nat) (X : List (Nat × Nat)) (ρ : Nat → Nat → Option Nat) (φ : qm_F) (x1 : Int32) (r : qm_F) (hd : 0 ≤ d) (hs : pr_addIn F nR nN nT φ x1 = some r) : qm_Rn d 195 0 [.ref 14, .int x1] [] (cw nR nN nT X ρ φ) (none, cw nR nN nT X ρ r) := by
  have hC := qC_195
  unfold pr_addIn at hs
  refine qr_s hC (n := 5) (pc' := 9) (ls' := [.ref 14, .int x1]) (st' := [.int 3, .int (φ 14 1)]) (h' := cw nR nN nT X ρ φ) rfl ?_
  refine qr_ge2 (tgt := 42) hC rfl (by decide) rfl (fun hc => ?_) (fun hc => ?_)
  · rw [if_pos hc] at hs
    have hs := Option.some.inj hs
    subst hs
    exact qr_r hC rfl rfl
  · rw [if_neg hc] at hs
    refine qr_s hC (n := 5) (pc' := 21) (ls' := [.ref 14, .int x1]) (st' := [.int x1, .int (φ 14 1), .ref 15]) (h' := cw nR nN nT X ρ φ) rfl ?_
    obtain ⟨hq, hs⟩ := qg_s hs
    refine qr_is (h' := cw nR nN nT X ρ (qm_u φ 15 ((φ 14 1).toNatClampNeg) x1)) hC rfl rfl hq rfl ?_
    refine qr_s hC (n := 12) (pc' := 42) (ls' := [.ref 14, .int x1]) (st' := []) (h' := cw nR nN nT X ρ (qm_u (qm_u (qm_u φ 15 ((φ 14 1).toNatClampNeg) x1) 14 5 ((φ 14 5) + x1)) 14 1 ((φ 14 1) + 1))) rfl ?_
    have hs := Option.some.inj hs
    subst hs
    exact qr_r hC rfl rfl
/-- SketchFiller$Parser.inLine()Z -/
def pa_inLine (F : Nat) (nR nN nT : Nat) (φ : qm_F) : Option (Int32 × qm_F) :=
  if (φ 14 1) < 3 then
    qb2 (pa_takeNewName F nR nN nT (qm_u φ 10 3 ((φ 10 3) + 1))) fun y1 φ1 =>
    if ¬ y1 = 0 then
      qb1 (na_add F nR nN nT φ1 (φ1 10 4) (φ1 14 1)) fun φ2 =>
      qb2 (pa_takeBits F nR nN nT φ2 (φ2 14 5)) fun y2 φ3 =>
      if ¬ y2 = 0 then
        qb1 (pr_addIn F nR nN nT φ3 (φ3 10 4)) fun φ4 =>
        qb2 (pa_take F nR nN nT φ4 59) fun y3 φ5 =>
        qg (qm_bz y3) (some (y3, φ5))
      else
        some (0, φ3)
    else
      some (0, φ1)
  else
    qb2 (pa_fail F nR nN nT φ 5) fun y4 φ6 =>
    qg (qm_bz y4) (some (y4, φ6))
set_option maxRecDepth 100000 in
theorem pa_inLine_n (F d : Nat) (nR nN nT : Nat) (X : List (Nat × Nat)) (ρ : Nat → Nat → Option Nat) (φ : qm_F) (r : (Int32 × qm_F)) (hd : 3 ≤ d) (hs : pa_inLine F nR nN nT φ = some r) : qm_Rn d 176 0 [.ref 10] [] (cw nR nN nT X ρ φ) (some (.int r.1), cw nR nN nT X ρ r.2) := by
  obtain ⟨d, rfl⟩ : ∃ e, d = e + 1 := ⟨d - 1, by omega⟩
  have hC := qC_176
  unfold pa_inLine at hs
  refine qr_s hC (n := 4) (pc' := 8) (ls' := [.ref 10]) (st' := [.int 3, .int (φ 14 1)]) (h' := cw nR nN nT X ρ φ) rfl ?_
  refine qr_lt2 (tgt := 17) hC rfl (by decide) rfl (fun hc => ?_) (fun hc => ?_)
  · rw [if_pos hc] at hs
    refine qr_s hC (n := 7) (pc' := 28) (ls' := [.ref 10]) (st' := [.ref 10]) (h' := cw nR nN nT X ρ (qm_u φ 10 3 ((φ 10 3) + 1))) rfl ?_
    obtain ⟨y1, φ1, hy, hs⟩ := qb2_s hs
    refine qr_c (j := 174) (as := [.ref 10]) (rest := []) (v := some (.int y1)) (h1 := cw nR nN nT X ρ φ1) hC rfl rfl qC_174 rfl rfl (pa_takeNewName_n F d nR nN nT X ρ (qm_u φ 10 3 ((φ 10 3) + 1)) _ (by omega) hy) ?_
    show qm_Rn (d + 1) 176 31 [.ref 10] [.int y1] (cw nR nN nT X ρ φ1) _
    refine qr_ne1 (tgt := 36) hC rfl (by decide) rfl (fun hc => ?_) (fun hc => ?_)
    · rw [if_pos hc] at hs
      refine qr_s hC (n := 7) (pc' := 51) (ls' := [.ref 10]) (st' := [.int (φ1 14 1), .int (φ1 10 4), .ref 11]) (h' := cw nR nN nT X ρ φ1) rfl ?_
      obtain ⟨φ2, hy, hs⟩ := qb1_s hs
      refine qr_c (j := 163) (as := [.ref 11, .int (φ1 10 4), .int (φ1 14 1)]) (rest := []) (v := none) (h1 := cw nR nN nT X ρ φ2) hC rfl rfl qC_163 rfl rfl (na_add_n F d nR nN nT X ρ φ1 (φ1 10 4) (φ1 14 1) _ (by omega) hy) ?_
      show qm_Rn (d + 1) 176 54 [.ref 10] [] (cw nR nN nT X ρ φ2) _
      refine qr_s hC (n := 4) (pc' := 62) (ls' := [.ref 10]) (st' := [.int (φ2 14 5), .ref 10]) (h' := cw nR nN nT X ρ φ2) rfl ?_
      obtain ⟨y2, φ3, hy, hs⟩ := qb2_s hs
      refine qr_c (j := 173) (as := [.ref 10, .int (φ2 14 5)]) (rest := []) (v := some (.int y2)) (h1 := cw nR nN nT X ρ φ3) hC rfl rfl qC_173 rfl rfl (pa_takeBits_n F d nR nN nT X ρ φ2 (φ2 14 5) _ (by omega) hy) ?_
      show qm_Rn (d + 1) 176 65 [.ref 10] [.int y2] (cw nR nN nT X ρ φ3) _
      refine qr_ne1 (tgt := 70) hC rfl (by decide) rfl (fun hc => ?_) (fun hc => ?_)
      · rw [if_pos hc] at hs
        refine qr_s hC (n := 4) (pc' := 78) (ls' := [.ref 10]) (st' := [.int (φ3 10 4), .ref 14]) (h' := cw nR nN nT X ρ φ3) rfl ?_
        obtain ⟨φ4, hy, hs⟩ := qb1_s hs
        refine qr_c (j := 195) (as := [.ref 14, .int (φ3 10 4)]) (rest := []) (v := none) (h1 := cw nR nN nT X ρ φ4) hC rfl rfl qC_195 rfl rfl (pr_addIn_n F d nR nN nT X ρ φ3 (φ3 10 4) _ (by omega) hy) ?_
        show qm_Rn (d + 1) 176 81 [.ref 10] [] (cw nR nN nT X ρ φ4) _
        refine qr_s hC (n := 2) (pc' := 84) (ls' := [.ref 10]) (st' := [.int 59, .ref 10]) (h' := cw nR nN nT X ρ φ4) rfl ?_
        obtain ⟨y3, φ5, hy, hs⟩ := qb2_s hs
        refine qr_c (j := 171) (as := [.ref 10, .int 59]) (rest := []) (v := some (.int y3)) (h1 := cw nR nN nT X ρ φ5) hC rfl rfl qC_171 rfl rfl (pa_take_n F d nR nN nT X ρ φ4 59 _ (by omega) hy) ?_
        show qm_Rn (d + 1) 176 87 [.ref 10] [.int y3] (cw nR nN nT X ρ φ5) _
        obtain ⟨hz, hs⟩ := qg_s hs
        have hs := Option.some.inj hs
        subst hs
        exact qr_rz hC rfl hz
      · rw [if_neg hc] at hs
        refine qr_s hC (n := 1) (pc' := 69) (ls' := [.ref 10]) (st' := [.int 0]) (h' := cw nR nN nT X ρ φ3) rfl ?_
        have hs := Option.some.inj hs
        subst hs
        exact qr_r hC rfl rfl
    · rw [if_neg hc] at hs
      refine qr_s hC (n := 1) (pc' := 35) (ls' := [.ref 10]) (st' := [.int 0]) (h' := cw nR nN nT X ρ φ1) rfl ?_
      have hs := Option.some.inj hs
      subst hs
      exact qr_r hC rfl rfl
  · rw [if_neg hc] at hs
    refine qr_s hC (n := 2) (pc' := 13) (ls' := [.ref 10]) (st' := [.int 5, .ref 10]) (h' := cw nR nN nT X ρ φ) rfl ?_
    obtain ⟨y4, φ6, hy, hs⟩ := qb2_s hs
    refine qr_c (j := 170) (as := [.ref 10, .int 5]) (rest := []) (v := some (.int y4)) (h1 := cw nR nN nT X ρ φ6) hC rfl rfl qC_170 rfl rfl (pa_fail_n F d nR nN nT X ρ φ 5 _ (by omega) hy) ?_
    show qm_Rn (d + 1) 176 16 [.ref 10] [.int y4] (cw nR nN nT X ρ φ6) _
    obtain ⟨hz, hs⟩ := qg_s hs
    have hs := Option.some.inj hs
    subst hs
    exact qr_rz hC rfl hz
/-- SketchFiller$Program.addHole(II)V -/
def pr_addHole (F : Nat) (nR nN nT : Nat) (φ : qm_F) (x1 : Int32) (x2 : Int32) : Option qm_F :=
  if 5 ≤ (φ 14 2) then
    some φ
  else
    qg (qm_in (φ 14 2) 5) <|
    qg (qm_in (φ 14 2) 5) <|
    some (qm_u (qm_u (qm_u (qm_u φ 16 ((φ 14 2).toNatClampNeg) x1) 17 ((φ 14 2).toNatClampNeg) x2) 14 6 ((φ 14 6) + x1)) 14 2 ((φ 14 2) + 1))
set_option maxRecDepth 100000 in
theorem pr_addHole_n (F d : Nat) (nR nN nT : Nat) (X : List (Nat × Nat)) (ρ : Nat → Nat → Option Nat) (φ : qm_F) (x1 : Int32) (x2 : Int32) (r : qm_F) (hd : 0 ≤ d) (hs : pr_addHole F nR nN nT φ x1 x2 = some r) : qm_Rn d 196 0 [.ref 14, .int x1, .int x2] [] (cw nR nN nT X ρ φ) (none, cw nR nN nT X ρ r) := by
  have hC := qC_196
  unfold pr_addHole at hs
  refine qr_s hC (n := 5) (pc' := 9) (ls' := [.ref 14, .int x1, .int x2]) (st' := [.int 5, .int (φ 14 2)]) (h' := cw nR nN nT X ρ φ) rfl ?_
  refine qr_ge2 (tgt := 52) hC rfl (by decide) rfl (fun hc => ?_) (fun hc => ?_)
  · rw [if_pos hc] at hs
    have hs := Option.some.inj hs
    subst hs
    exact qr_r hC rfl rfl
  · rw [if_neg hc] at hs
    refine qr_s hC (n := 5) (pc' := 21) (ls' := [.ref 14, .int x1, .int x2]) (st' := [.int x1, .int (φ 14 2), .ref 16]) (h' := cw nR nN nT X ρ φ) rfl ?_
    obtain ⟨hq, hs⟩ := qg_s hs
    refine qr_is (h' := cw nR nN nT X ρ (qm_u φ 16 ((φ 14 2).toNatClampNeg) x1)) hC rfl rfl hq rfl ?_
    refine qr_s hC (n := 5) (pc' := 31) (ls' := [.ref 14, .int x1, .int x2]) (st' := [.int x2, .int (φ 14 2), .ref 17]) (h' := cw nR nN nT X ρ (qm_u φ 16 ((φ 14 2).toNatClampNeg) x1)) rfl ?_
    obtain ⟨hq, hs⟩ := qg_s hs
    refine qr_is (h' := cw nR nN nT X ρ (qm_u (qm_u φ 16 ((φ 14 2).toNatClampNeg) x1) 17 ((φ 14 2).toNatClampNeg) x2)) hC rfl rfl hq rfl ?_
    refine qr_s hC (n := 12) (pc' := 52) (ls' := [.ref 14, .int x1, .int x2]) (st' := []) (h' := cw nR nN nT X ρ (qm_u (qm_u (qm_u (qm_u φ 16 ((φ 14 2).toNatClampNeg) x1) 17 ((φ 14 2).toNatClampNeg) x2) 14 6 ((φ 14 6) + x1)) 14 2 ((φ 14 2) + 1))) rfl ?_
    have hs := Option.some.inj hs
    subst hs
    exact qr_r hC rfl rfl
/-- SketchFiller$Parser.holeLine()Z -/
def pa_holeLine_L114 (F : Nat) (nR nN nT : Nat) (φ : qm_F) (x1 : Int32) : Option (Int32 × qm_F) :=
  qb1 (pr_addHole F nR nN nT φ x1 (φ 10 4)) fun φ1 =>
  qb2 (pa_take F nR nN nT φ1 59) fun y1 φ2 =>
  qg (qm_bz y1) (some (y1, φ2))
def pa_holeLine (F : Nat) (nR nN nT : Nat) (φ : qm_F) : Option (Int32 × qm_F) :=
  if (φ 14 2) < 5 then
    qb2 (pa_takeNewName F nR nN nT (qm_u φ 10 3 ((φ 10 3) + 1))) fun y1 φ1 =>
    if ¬ y1 = 0 then
      qb1 (na_add F nR nN nT φ1 (φ1 10 4) (3 + (φ1 14 2))) fun φ2 =>
      qb2 (pa_takeBits F nR nN nT φ2 (φ2 14 6)) fun y2 φ3 =>
      if ¬ y2 = 0 then
        qb1 (pa_kind F nR nN nT (qm_u φ3 10 4 1)) fun y3 =>
        if ¬ y3 = 131 then
          pa_holeLine_L114 F nR nN nT (qm_u φ3 10 4 1) (φ3 10 4)
        else
          qb2 (pa_takeNumber F nR nN nT (qm_u (qm_u φ3 10 4 1) 10 3 ((φ3 10 3) + 1)) 0 9) fun y4 φ4 =>
          if ¬ y4 = 0 then
            pa_holeLine_L114 F nR nN nT φ4 (φ3 10 4)
          else
            some (0, φ4)
      else
        some (0, φ3)
    else
      some (0, φ1)
  else
    qb2 (pa_fail F nR nN nT φ 5) fun y5 φ5 =>
    qg (qm_bz y5) (some (y5, φ5))
set_option maxRecDepth 100000 in
theorem pa_holeLine_L114_n (F d : Nat) (nR nN nT : Nat) (X : List (Nat × Nat)) (ρ : Nat → Nat → Option Nat) (hd : 3 ≤ d) (φ : qm_F) (x1 : Int32) (r : (Int32 × qm_F)) (hs : pa_holeLine_L114 F nR nN nT φ x1 = some r) : qm_Rn d 177 114 [.ref 10, .int x1] [] (cw nR nN nT X ρ φ) (some (.int r.1), cw nR nN nT X ρ r.2) := by
  obtain ⟨d, rfl⟩ : ∃ e, d = e + 1 := ⟨d - 1, by omega⟩
  have hC := qC_177
  unfold pa_holeLine_L114 at hs
  refine qr_s hC (n := 5) (pc' := 123) (ls' := [.ref 10, .int x1]) (st' := [.int (φ 10 4), .int x1, .ref 14]) (h' := cw nR nN nT X ρ φ) rfl ?_
  obtain ⟨φ1, hy, hs⟩ := qb1_s hs
  refine qr_c (j := 196) (as := [.ref 14, .int x1, .int (φ 10 4)]) (rest := []) (v := none) (h1 := cw nR nN nT X ρ φ1) hC rfl rfl qC_196 rfl rfl (pr_addHole_n F d nR nN nT X ρ φ x1 (φ 10 4) _ (by omega) hy) ?_
  show qm_Rn (d + 1) 177 126 [.ref 10, .int x1] [] (cw nR nN nT X ρ φ1) _
  refine qr_s hC (n := 2) (pc' := 129) (ls' := [.ref 10, .int x1]) (st' := [.int 59, .ref 10]) (h' := cw nR nN nT X ρ φ1) rfl ?_
  obtain ⟨y1, φ2, hy, hs⟩ := qb2_s hs
  refine qr_c (j := 171) (as := [.ref 10, .int 59]) (rest := []) (v := some (.int y1)) (h1 := cw nR nN nT X ρ φ2) hC rfl rfl qC_171 rfl rfl (pa_take_n F d nR nN nT X ρ φ1 59 _ (by omega) hy) ?_
  show qm_Rn (d + 1) 177 132 [.ref 10, .int x1] [.int y1] (cw nR nN nT X ρ φ2) _
  obtain ⟨hz, hs⟩ := qg_s hs
  have hs := Option.some.inj hs
  subst hs
  exact qr_rz hC rfl hz
set_option maxRecDepth 100000 in
theorem pa_holeLine_n (F d : Nat) (nR nN nT : Nat) (X : List (Nat × Nat)) (ρ : Nat → Nat → Option Nat) (φ : qm_F) (r : (Int32 × qm_F)) (hd : 3 ≤ d) (hs : pa_holeLine F nR nN nT φ = some r) : qm_Rn d 177 0 [.ref 10, .retAddr 0] [] (cw nR nN nT X ρ φ) (some (.int r.1), cw nR nN nT X ρ r.2) := by
  obtain ⟨d, rfl⟩ : ∃ e, d = e + 1 := ⟨d - 1, by omega⟩
  have hC := qC_177
  unfold pa_holeLine at hs
  refine qr_s hC (n := 4) (pc' := 8) (ls' := [.ref 10, .retAddr 0]) (st' := [.int 5, .int (φ 14 2)]) (h' := cw nR nN nT X ρ φ) rfl ?_
  refine qr_lt2 (tgt := 17) hC rfl (by decide) rfl (fun hc => ?_) (fun hc => ?_)
  · rw [if_pos hc] at hs
    refine qr_s hC (n := 7) (pc' := 28) (ls' := [.ref 10, .retAddr 0]) (st' := [.ref 10]) (h' := cw nR nN nT X ρ (qm_u φ 10 3 ((φ 10 3) + 1))) rfl ?_
    obtain ⟨y1, φ1, hy, hs⟩ := qb2_s hs
    refine qr_c (j := 174) (as := [.ref 10]) (rest := []) (v := some (.int y1)) (h1 := cw nR nN nT X ρ φ1) hC rfl rfl qC_174 rfl rfl (pa_takeNewName_n F d nR nN nT X ρ (qm_u φ 10 3 ((φ 10 3) + 1)) _ (by omega) hy) ?_
    show qm_Rn (d + 1) 177 31 [.ref 10, .retAddr 0] [.int y1] (cw nR nN nT X ρ φ1) _
    refine qr_ne1 (tgt := 36) hC rfl (by decide) rfl (fun hc => ?_) (fun hc => ?_)
    · rw [if_pos hc] at hs
      refine qr_s hC (n := 9) (pc' := 53) (ls' := [.ref 10, .retAddr 0]) (st' := [.int (3 + (φ1 14 2)), .int (φ1 10 4), .ref 11]) (h' := cw nR nN nT X ρ φ1) rfl ?_
      obtain ⟨φ2, hy, hs⟩ := qb1_s hs
      refine qr_c (j := 163) (as := [.ref 11, .int (φ1 10 4), .int (3 + (φ1 14 2))]) (rest := []) (v := none) (h1 := cw nR nN nT X ρ φ2) hC rfl rfl qC_163 rfl rfl (na_add_n F d nR nN nT X ρ φ1 (φ1 10 4) (3 + (φ1 14 2)) _ (by omega) hy) ?_
      show qm_Rn (d + 1) 177 56 [.ref 10, .retAddr 0] [] (cw nR nN nT X ρ φ2) _
      refine qr_s hC (n := 4) (pc' := 64) (ls' := [.ref 10, .retAddr 0]) (st' := [.int (φ2 14 6), .ref 10]) (h' := cw nR nN nT X ρ φ2) rfl ?_
      obtain ⟨y2, φ3, hy, hs⟩ := qb2_s hs
      refine qr_c (j := 173) (as := [.ref 10, .int (φ2 14 6)]) (rest := []) (v := some (.int y2)) (h1 := cw nR nN nT X ρ φ3) hC rfl rfl qC_173 rfl rfl (pa_takeBits_n F d nR nN nT X ρ φ2 (φ2 14 6) _ (by omega) hy) ?_
      show qm_Rn (d + 1) 177 67 [.ref 10, .retAddr 0] [.int y2] (cw nR nN nT X ρ φ3) _
      refine qr_ne1 (tgt := 72) hC rfl (by decide) rfl (fun hc => ?_) (fun hc => ?_)
      · rw [if_pos hc] at hs
        refine qr_s hC (n := 7) (pc' := 83) (ls' := [.ref 10, .int (φ3 10 4)]) (st' := [.ref 10]) (h' := cw nR nN nT X ρ (qm_u φ3 10 4 1)) rfl ?_
        obtain ⟨y3, hy, hs⟩ := qb1_s hs
        refine qr_c (j := 169) (as := [.ref 10]) (rest := []) (v := some (.int y3)) (h1 := cw nR nN nT X ρ (qm_u φ3 10 4 1)) hC rfl rfl qC_169 rfl rfl (pa_kind_n F d nR nN nT X ρ (qm_u φ3 10 4 1) _ (by omega) hy) ?_
        show qm_Rn (d + 1) 177 86 [.ref 10, .int (φ3 10 4)] [.int y3] (cw nR nN nT X ρ (qm_u φ3 10 4 1)) _
        refine qr_s hC (n := 1) (pc' := 89) (ls' := [.ref 10, .int (φ3 10 4)]) (st' := [.int 131, .int y3]) (h' := cw nR nN nT X ρ (qm_u φ3 10 4 1)) rfl ?_
        refine qr_ne2 (tgt := 114) hC rfl (by decide) rfl (fun hc => ?_) (fun hc => ?_)
        · rw [if_pos hc] at hs
          exact pa_holeLine_L114_n F (d + 1) nR nN nT X ρ (by omega) (qm_u φ3 10 4 1) (φ3 10 4) _ hs
        · rw [if_neg hc] at hs
          refine qr_s hC (n := 9) (pc' := 106) (ls' := [.ref 10, .int (φ3 10 4)]) (st' := [.int 9, .int 0, .ref 10]) (h' := cw nR nN nT X ρ (qm_u (qm_u φ3 10 4 1) 10 3 ((φ3 10 3) + 1))) rfl ?_
          obtain ⟨y4, φ4, hy, hs⟩ := qb2_s hs
          refine qr_c (j := 172) (as := [.ref 10, .int 0, .int 9]) (rest := []) (v := some (.int y4)) (h1 := cw nR nN nT X ρ φ4) hC rfl rfl qC_172 rfl rfl (pa_takeNumber_n F d nR nN nT X ρ (qm_u (qm_u φ3 10 4 1) 10 3 ((φ3 10 3) + 1)) 0 9 _ (by omega) hy) ?_
          show qm_Rn (d + 1) 177 109 [.ref 10, .int (φ3 10 4)] [.int y4] (cw nR nN nT X ρ φ4) _
          refine qr_ne1 (tgt := 114) hC rfl (by decide) rfl (fun hc => ?_) (fun hc => ?_)
          · rw [if_pos hc] at hs
            exact pa_holeLine_L114_n F (d + 1) nR nN nT X ρ (by omega) φ4 (φ3 10 4) _ hs
          · rw [if_neg hc] at hs
            refine qr_s hC (n := 1) (pc' := 113) (ls' := [.ref 10, .int (φ3 10 4)]) (st' := [.int 0]) (h' := cw nR nN nT X ρ φ4) rfl ?_
            have hs := Option.some.inj hs
            subst hs
            exact qr_r hC rfl rfl
      · rw [if_neg hc] at hs
        refine qr_s hC (n := 1) (pc' := 71) (ls' := [.ref 10, .retAddr 0]) (st' := [.int 0]) (h' := cw nR nN nT X ρ φ3) rfl ?_
        have hs := Option.some.inj hs
        subst hs
        exact qr_r hC rfl rfl
    · rw [if_neg hc] at hs
      refine qr_s hC (n := 1) (pc' := 35) (ls' := [.ref 10, .retAddr 0]) (st' := [.int 0]) (h' := cw nR nN nT X ρ φ1) rfl ?_
      have hs := Option.some.inj hs
      subst hs
      exact qr_r hC rfl rfl
  · rw [if_neg hc] at hs
    refine qr_s hC (n := 2) (pc' := 13) (ls' := [.ref 10, .retAddr 0]) (st' := [.int 5, .ref 10]) (h' := cw nR nN nT X ρ φ) rfl ?_
    obtain ⟨y5, φ5, hy, hs⟩ := qb2_s hs
    refine qr_c (j := 170) (as := [.ref 10, .int 5]) (rest := []) (v := some (.int y5)) (h1 := cw nR nN nT X ρ φ5) hC rfl rfl qC_170 rfl rfl (pa_fail_n F d nR nN nT X ρ φ 5 _ (by omega) hy) ?_
    show qm_Rn (d + 1) 177 16 [.ref 10, .retAddr 0] [.int y5] (cw nR nN nT X ρ φ5) _
    obtain ⟨hz, hs⟩ := qg_s hs
    have hs := Option.some.inj hs
    subst hs
    exact qr_rz hC rfl hz
/-- SketchFiller$Parser.varLine()Z -/
def pa_varLine (F : Nat) (nR nN nT : Nat) (φ : qm_F) : Option (Int32 × qm_F) :=
  if (φ 14 3) < 4 then
    qb2 (pa_takeNewName F nR nN nT (qm_u φ 10 3 ((φ 10 3) + 1))) fun y1 φ1 =>
    if ¬ y1 = 0 then
      qb1 (na_add F nR nN nT φ1 (φ1 10 4) (8 + (φ1 14 3))) fun φ2 =>
      qb2 (pa_take F nR nN nT (qm_u φ2 14 3 ((φ2 14 3) + 1)) 59) fun y2 φ3 =>
      qg (qm_bz y2) (some (y2, φ3))
    else
      some (0, φ1)
  else
    qb2 (pa_fail F nR nN nT φ 5) fun y3 φ4 =>
    qg (qm_bz y3) (some (y3, φ4))
set_option maxRecDepth 100000 in
theorem pa_varLine_n (F d : Nat) (nR nN nT : Nat) (X : List (Nat × Nat)) (ρ : Nat → Nat → Option Nat) (φ : qm_F) (r : (Int32 × qm_F)) (hd : 3 ≤ d) (hs : pa_varLine F nR nN nT φ = some r) : qm_Rn d 178 0 [.ref 10] [] (cw nR nN nT X ρ φ) (some (.int r.1), cw nR nN nT X ρ r.2) := by
  obtain ⟨d, rfl⟩ : ∃ e, d = e + 1 := ⟨d - 1, by omega⟩
  have hC := qC_178
  unfold pa_varLine at hs
  refine qr_s hC (n := 4) (pc' := 8) (ls' := [.ref 10]) (st' := [.int 4, .int (φ 14 3)]) (h' := cw nR nN nT X ρ φ) rfl ?_
  refine qr_lt2 (tgt := 17) hC rfl (by decide) rfl (fun hc => ?_) (fun hc => ?_)
  · rw [if_pos hc] at hs
    refine qr_s hC (n := 7) (pc' := 28) (ls' := [.ref 10]) (st' := [.ref 10]) (h' := cw nR nN nT X ρ (qm_u φ 10 3 ((φ 10 3) + 1))) rfl ?_
    obtain ⟨y1, φ1, hy, hs⟩ := qb2_s hs
    refine qr_c (j := 174) (as := [.ref 10]) (rest := []) (v := some (.int y1)) (h1 := cw nR nN nT X ρ φ1) hC rfl rfl qC_174 rfl rfl (pa_takeNewName_n F d nR nN nT X ρ (qm_u φ 10 3 ((φ 10 3) + 1)) _ (by omega) hy) ?_
    show qm_Rn (d + 1) 178 31 [.ref 10] [.int y1] (cw nR nN nT X ρ φ1) _
    refine qr_ne1 (tgt := 36) hC rfl (by decide) rfl (fun hc => ?_) (fun hc => ?_)
    · rw [if_pos hc] at hs
      refine qr_s hC (n := 9) (pc' := 54) (ls' := [.ref 10]) (st' := [.int (8 + (φ1 14 3)), .int (φ1 10 4), .ref 11]) (h' := cw nR nN nT X ρ φ1) rfl ?_
      obtain ⟨φ2, hy, hs⟩ := qb1_s hs
      refine qr_c (j := 163) (as := [.ref 11, .int (φ1 10 4), .int (8 + (φ1 14 3))]) (rest := []) (v := none) (h1 := cw nR nN nT X ρ φ2) hC rfl rfl qC_163 rfl rfl (na_add_n F d nR nN nT X ρ φ1 (φ1 10 4) (8 + (φ1 14 3)) _ (by omega) hy) ?_
      show qm_Rn (d + 1) 178 57 [.ref 10] [] (cw nR nN nT X ρ φ2) _
      refine qr_s hC (n := 9) (pc' := 73) (ls' := [.ref 10]) (st' := [.int 59, .ref 10]) (h' := cw nR nN nT X ρ (qm_u φ2 14 3 ((φ2 14 3) + 1))) rfl ?_
      obtain ⟨y2, φ3, hy, hs⟩ := qb2_s hs
      refine qr_c (j := 171) (as := [.ref 10, .int 59]) (rest := []) (v := some (.int y2)) (h1 := cw nR nN nT X ρ φ3) hC rfl rfl qC_171 rfl rfl (pa_take_n F d nR nN nT X ρ (qm_u φ2 14 3 ((φ2 14 3) + 1)) 59 _ (by omega) hy) ?_
      show qm_Rn (d + 1) 178 76 [.ref 10] [.int y2] (cw nR nN nT X ρ φ3) _
      obtain ⟨hz, hs⟩ := qg_s hs
      have hs := Option.some.inj hs
      subst hs
      exact qr_rz hC rfl hz
    · rw [if_neg hc] at hs
      refine qr_s hC (n := 1) (pc' := 35) (ls' := [.ref 10]) (st' := [.int 0]) (h' := cw nR nN nT X ρ φ1) rfl ?_
      have hs := Option.some.inj hs
      subst hs
      exact qr_r hC rfl rfl
  · rw [if_neg hc] at hs
    refine qr_s hC (n := 2) (pc' := 13) (ls' := [.ref 10]) (st' := [.int 5, .ref 10]) (h' := cw nR nN nT X ρ φ) rfl ?_
    obtain ⟨y3, φ4, hy, hs⟩ := qb2_s hs
    refine qr_c (j := 170) (as := [.ref 10, .int 5]) (rest := []) (v := some (.int y3)) (h1 := cw nR nN nT X ρ φ4) hC rfl rfl qC_170 rfl rfl (pa_fail_n F d nR nN nT X ρ φ 5 _ (by omega) hy) ?_
    show qm_Rn (d + 1) 178 16 [.ref 10] [.int y3] (cw nR nN nT X ρ φ4) _
    obtain ⟨hz, hs⟩ := qg_s hs
    have hs := Option.some.inj hs
    subst hs
    exact qr_rz hC rfl hz
/-- SketchFiller$Parser.lines()Z -/
def pa_lines_L2 (F : Nat) (nR nN nT : Nat) : Nat → Nat → qm_F → Int32 → Int32 → Option (Int32 × qm_F)
  | 0, _, _, _, _ => none
  | n + 1, t, φ, x1, x2 =>
    if t = 0 then
      qb1 (to_count F nR nN φ) fun y1 =>
      if y1 ≤ x1 then
        some (1, φ)
      else
        qb1 (pa_kind F nR nN nT φ) fun y2 =>
        if y2 = 129 then
          qb2 (pa_inLine F nR nN nT φ) fun y3 φ1 =>
          pa_lines_L2 F nR nN nT n 1 φ1 x1 y3
        else
        if y2 = 130 then
          qb2 (pa_holeLine F nR nN nT φ) fun y4 φ2 =>
          pa_lines_L2 F nR nN nT n 1 φ2 x1 y4
        else
        if y2 = 131 then
          some (1, φ)
        else
        if y2 = 132 then
          qb2 (pa_varLine F nR nN nT φ) fun y5 φ3 =>
          pa_lines_L2 F nR nN nT n 1 φ3 x1 y5
        else
        some (1, φ)
    else
    if ¬ x2 = 0 then
      pa_lines_L2 F nR nN nT n 0 φ (x1 + 1) 0
    else
      some (0, φ)
def pa_lines (F : Nat) (nR nN nT : Nat) (φ : qm_F) : Option (Int32 × qm_F) :=
  pa_lines_L2 F nR nN nT F 0 φ 0 0
set_option maxRecDepth 100000 in
theorem pa_lines_L2_n0 (F d : Nat) (nR nN nT : Nat) (X : List (Nat × Nat)) (ρ : Nat → Nat → Option Nat) (hd : 4 ≤ d) : ∀ (n t : Nat) (φ : qm_F) (x1 : Int32) (x2 : Int32) (r : (Int32 × qm_F)), pa_lines_L2 F nR nN nT n t φ x1 x2 = some r → (t = 0 → qm_Rn d 175 2 [.ref 10, .int x1, .retAddr 0] [] (cw nR nN nT X ρ φ) (some (.int r.1), cw nR nN nT X ρ r.2)) ∧ (t ≠ 0 → qm_Rn d 175 74 [.ref 10, .int x1, .int x2] [] (cw nR nN nT X ρ φ) (some (.int r.1), cw nR nN nT X ρ r.2)) := by
  obtain ⟨d, rfl⟩ : ∃ e, d = e + 1 := ⟨d - 1, by omega⟩
  have hC := qC_175
  intro n
  induction n with
  | zero => intro t φ x1 x2 r hs; simp [pa_lines_L2] at hs
  | succ n ihh =>
    intro t φ x1 x2 r hs
    rw [pa_lines_L2] at hs
    have ih0 : ∀ (φ : qm_F) (x1 : Int32) (x2 : Int32) (r : (Int32 × qm_F)), pa_lines_L2 F nR nN nT n 0 φ x1 x2 = some r → _ := fun φ x1 x2 r q => (ihh 0 φ x1 x2 r q).1 rfl
    have ih1 : ∀ (φ : qm_F) (x1 : Int32) (x2 : Int32) (r : (Int32 × qm_F)), pa_lines_L2 F nR nN nT n 1 φ x1 x2 = some r → _ := fun φ x1 x2 r q => (ihh 1 φ x1 x2 r q).2 (by decide)
    refine ⟨fun ht => ?_, fun ht => ?_⟩
    · subst ht
      rw [if_pos rfl] at hs
      refine qr_s hC (n := 3) (pc' := 7) (ls' := [.ref 10, .int x1, .retAddr 0]) (st' := [.ref 4, .int x1]) (h' := cw nR nN nT X ρ φ) rfl ?_
      obtain ⟨y1, hy, hs⟩ := qb1_s hs
      refine qr_c (j := 264) (as := [.ref 4]) (rest := [.int x1]) (v := some (.int y1)) (h1 := cw nR nN nT X ρ φ) hC rfl rfl qC_264 rfl rfl (to_count_n F d nR nN (cw_X nT X) (cw_R ρ) φ _ (by omega) hy) ?_
      show qm_Rn (d + 1) 175 10 [.ref 10, .int x1, .retAddr 0] [.int y1, .int x1] (cw nR nN nT X ρ φ) _
      refine qr_ge2 (tgt := 86) hC rfl (by decide) rfl (fun hc => ?_) (fun hc => ?_)
      · rw [if_pos hc] at hs
        refine qr_s hC (n := 1) (pc' := 87) (ls' := [.ref 10, .int x1, .retAddr 0]) (st' := [.int 1]) (h' := cw nR nN nT X ρ φ) rfl ?_
        have hs := Option.some.inj hs
        subst hs
        exact qr_r hC rfl rfl
      · rw [if_neg hc] at hs
        refine qr_s hC (n := 1) (pc' := 14) (ls' := [.ref 10, .int x1, .retAddr 0]) (st' := [.ref 10]) (h' := cw nR nN nT X ρ φ) rfl ?_
        obtain ⟨y2, hy, hs⟩ := qb1_s hs
        refine qr_c (j := 169) (as := [.ref 10]) (rest := []) (v := some (.int y2)) (h1 := cw nR nN nT X ρ φ) hC rfl rfl qC_169 rfl rfl (pa_kind_n F d nR nN nT X ρ φ _ (by omega) hy) ?_
        show qm_Rn (d + 1) 175 17 [.ref 10, .int x1, .retAddr 0] [.int y2] (cw nR nN nT X ρ φ) _
        by_cases q0 : y2 = 129
        · rw [if_pos q0] at hs
          refine qr_sw hC (tgt := 48) rfl q0 rfl ?_
          refine qr_s hC (n := 1) (pc' := 49) (ls' := [.ref 10, .int x1, .retAddr 0]) (st' := [.ref 10]) (h' := cw nR nN nT X ρ φ) rfl ?_
          obtain ⟨y3, φ1, hy, hs⟩ := qb2_s hs
          refine qr_c (j := 176) (as := [.ref 10]) (rest := []) (v := some (.int y3)) (h1 := cw nR nN nT X ρ φ1) hC rfl rfl qC_176 rfl rfl (pa_inLine_n F d nR nN nT X ρ φ _ (by omega) hy) ?_
          show qm_Rn (d + 1) 175 52 [.ref 10, .int x1, .retAddr 0] [.int y3] (cw nR nN nT X ρ φ1) _
          refine qr_s hC (n := 2) (pc' := 74) (ls' := [.ref 10, .int x1, .int y3]) (st' := []) (h' := cw nR nN nT X ρ φ1) rfl ?_
          exact (ih1 φ1 x1 y3 _ hs)
        · rw [if_neg q0] at hs
          by_cases q1 : y2 = 130
          · rw [if_pos q1] at hs
            refine qr_sw hC (tgt := 56) rfl q1 rfl ?_
            refine qr_s hC (n := 1) (pc' := 57) (ls' := [.ref 10, .int x1, .retAddr 0]) (st' := [.ref 10]) (h' := cw nR nN nT X ρ φ) rfl ?_
            obtain ⟨y4, φ2, hy, hs⟩ := qb2_s hs
            refine qr_c (j := 177) (as := [.ref 10]) (rest := []) (v := some (.int y4)) (h1 := cw nR nN nT X ρ φ2) hC rfl rfl qC_177 rfl rfl (pa_holeLine_n F d nR nN nT X ρ φ _ (by omega) hy) ?_
            show qm_Rn (d + 1) 175 60 [.ref 10, .int x1, .retAddr 0] [.int y4] (cw nR nN nT X ρ φ2) _
            refine qr_s hC (n := 2) (pc' := 74) (ls' := [.ref 10, .int x1, .int y4]) (st' := []) (h' := cw nR nN nT X ρ φ2) rfl ?_
            exact (ih1 φ2 x1 y4 _ hs)
          · rw [if_neg q1] at hs
            by_cases q2 : y2 = 131
            · rw [if_pos q2] at hs
              refine qr_sw hC (tgt := 72) rfl q2 rfl ?_
              refine qr_s hC (n := 1) (pc' := 73) (ls' := [.ref 10, .int x1, .retAddr 0]) (st' := [.int 1]) (h' := cw nR nN nT X ρ φ) rfl ?_
              have hs := Option.some.inj hs
              subst hs
              exact qr_r hC rfl rfl
            · rw [if_neg q2] at hs
              by_cases q3 : y2 = 132
              · rw [if_pos q3] at hs
                refine qr_sw hC (tgt := 64) rfl q3 rfl ?_
                refine qr_s hC (n := 1) (pc' := 65) (ls' := [.ref 10, .int x1, .retAddr 0]) (st' := [.ref 10]) (h' := cw nR nN nT X ρ φ) rfl ?_
                obtain ⟨y5, φ3, hy, hs⟩ := qb2_s hs
                refine qr_c (j := 178) (as := [.ref 10]) (rest := []) (v := some (.int y5)) (h1 := cw nR nN nT X ρ φ3) hC rfl rfl qC_178 rfl rfl (pa_varLine_n F d nR nN nT X ρ φ _ (by omega) hy) ?_
                show qm_Rn (d + 1) 175 68 [.ref 10, .int x1, .retAddr 0] [.int y5] (cw nR nN nT X ρ φ3) _
                refine qr_s hC (n := 2) (pc' := 74) (ls' := [.ref 10, .int x1, .int y5]) (st' := []) (h' := cw nR nN nT X ρ φ3) rfl ?_
                exact (ih1 φ3 x1 y5 _ hs)
              · rw [if_neg q3] at hs
                have z0 : Int32.toInt y2 ≠ 129 := fun z => q0 (Int32.toInt_inj.mp (z.trans (by decide)))
                have z1 : Int32.toInt y2 ≠ 130 := fun z => q1 (Int32.toInt_inj.mp (z.trans (by decide)))
                have z2 : Int32.toInt y2 ≠ 131 := fun z => q2 (Int32.toInt_inj.mp (z.trans (by decide)))
                have z3 : Int32.toInt y2 ≠ 132 := fun z => q3 (Int32.toInt_inj.mp (z.trans (by decide)))
                refine qr_tD (tgt := 72) hC rfl (by omega) (by decide) rfl ?_
                refine qr_s hC (n := 1) (pc' := 73) (ls' := [.ref 10, .int x1, .retAddr 0]) (st' := [.int 1]) (h' := cw nR nN nT X ρ φ) rfl ?_
                have hs := Option.some.inj hs
                subst hs
                exact qr_r hC rfl rfl
    · have ht0 := ht
      rw [if_neg ht0] at hs
      refine qr_s hC (n := 1) (pc' := 75) (ls' := [.ref 10, .int x1, .int x2]) (st' := [.int x2]) (h' := cw nR nN nT X ρ φ) rfl ?_
      refine qr_ne1 (tgt := 80) hC rfl (by decide) rfl (fun hc => ?_) (fun hc => ?_)
      · rw [if_pos hc] at hs
        refine qr_s hC (n := 2) (pc' := 2) (ls' := [.ref 10, .int (x1 + 1), .int x2]) (st' := []) (h' := cw nR nN nT X ρ φ) rfl ?_
        exact qr_w (a := [.ref 10, .int (x1 + 1), .retAddr 0]) ⟨Or.inr rfl, Or.inr rfl, Or.inl rfl, trivial⟩ (ih0 φ (x1 + 1) 0 _ hs)
      · rw [if_neg hc] at hs
        refine qr_s hC (n := 1) (pc' := 79) (ls' := [.ref 10, .int x1, .int x2]) (st' := [.int 0]) (h' := cw nR nN nT X ρ φ) rfl ?_
        have hs := Option.some.inj hs
        subst hs
        exact qr_r hC rfl rfl
theorem pa_lines_L2_n_t0 (F d : Nat) (nR nN nT : Nat) (X : List (Nat × Nat)) (ρ : Nat → Nat → Option Nat) (hd : 4 ≤ d) (n : Nat) (φ : qm_F) (x1 : Int32) (x2 : Int32) (r : (Int32 × qm_F)) (hs : pa_lines_L2 F nR nN nT n 0 φ x1 x2 = some r) : qm_Rn d 175 2 [.ref 10, .int x1, .retAddr 0] [] (cw nR nN nT X ρ φ) (some (.int r.1), cw nR nN nT X ρ r.2) := (pa_lines_L2_n0 F d nR nN nT X ρ hd n 0 φ x1 x2 r hs).1 rfl
theorem pa_lines_L2_n_t1 (F d : Nat) (nR nN nT : Nat) (X : List (Nat × Nat)) (ρ : Nat → Nat → Option Nat) (hd : 4 ≤ d) (n : Nat) (φ : qm_F) (x1 : Int32) (x2 : Int32) (r : (Int32 × qm_F)) (hs : pa_lines_L2 F nR nN nT n 1 φ x1 x2 = some r) : qm_Rn d 175 74 [.ref 10, .int x1, .int x2] [] (cw nR nN nT X ρ φ) (some (.int r.1), cw nR nN nT X ρ r.2) := (pa_lines_L2_n0 F d nR nN nT X ρ hd n 1 φ x1 x2 r hs).2 (by decide)
set_option maxRecDepth 100000 in
theorem pa_lines_n (F d : Nat) (nR nN nT : Nat) (X : List (Nat × Nat)) (ρ : Nat → Nat → Option Nat) (φ : qm_F) (r : (Int32 × qm_F)) (hd : 4 ≤ d) (hs : pa_lines F nR nN nT φ = some r) : qm_Rn d 175 0 [.ref 10, .retAddr 0, .retAddr 0] [] (cw nR nN nT X ρ φ) (some (.int r.1), cw nR nN nT X ρ r.2) := by
  obtain ⟨d, rfl⟩ : ∃ e, d = e + 1 := ⟨d - 1, by omega⟩
  have hC := qC_175
  unfold pa_lines at hs
  refine qr_s hC (n := 2) (pc' := 2) (ls' := [.ref 10, .int 0, .retAddr 0]) (st' := []) (h' := cw nR nN nT X ρ φ) rfl ?_
  exact (pa_lines_L2_n_t0 F (d + 1) nR nN nT X ρ (by omega) F φ 0 0 _ hs)
/-- SketchFiller$Parser.beginsStatement()Z -/
def pa_beginsStatement (F : Nat) (nR nN nT : Nat) (φ : qm_F) : Option Int32 :=
  qb1 (pa_kind F nR nN nT φ) fun y1 =>
  if y1 = 97 then
    some 1
  else
  if y1 = 133 then
    some 1
  else
  if y1 = 134 then
    some 1
  else
  if y1 = 136 then
    some 1
  else
  if y1 = 137 then
    some 1
  else
  if y1 = 139 then
    some 1
  else
  some 0
set_option maxRecDepth 100000 in
theorem pa_beginsStatement_n (F d : Nat) (nR nN nT : Nat) (X : List (Nat × Nat)) (ρ : Nat → Nat → Option Nat) (φ : qm_F) (r : Int32) (hd : 2 ≤ d) (hs : pa_beginsStatement F nR nN nT φ = some r) : qm_Rn d 180 0 [.ref 10] [] (cw nR nN nT X ρ φ) (some (.int r), cw nR nN nT X ρ φ) := by
  obtain ⟨d, rfl⟩ : ∃ e, d = e + 1 := ⟨d - 1, by omega⟩
  have hC := qC_180
  unfold pa_beginsStatement at hs
  refine qr_s hC (n := 1) (pc' := 1) (ls' := [.ref 10]) (st' := [.ref 10]) (h' := cw nR nN nT X ρ φ) rfl ?_
  obtain ⟨y1, hy, hs⟩ := qb1_s hs
  refine qr_c (j := 169) (as := [.ref 10]) (rest := []) (v := some (.int y1)) (h1 := cw nR nN nT X ρ φ) hC rfl rfl qC_169 rfl rfl (pa_kind_n F d nR nN nT X ρ φ _ (by omega) hy) ?_
  show qm_Rn (d + 1) 180 4 [.ref 10] [.int y1] (cw nR nN nT X ρ φ) _
  by_cases q0 : y1 = 97
  · rw [if_pos q0] at hs
    refine qr_sw hC (tgt := 64) rfl q0 rfl ?_
    refine qr_s hC (n := 1) (pc' := 65) (ls' := [.ref 10]) (st' := [.int 1]) (h' := cw nR nN nT X ρ φ) rfl ?_
    have hs := Option.some.inj hs
    subst hs
    exact qr_r hC rfl rfl
  · rw [if_neg q0] at hs
    by_cases q1 : y1 = 133
    · rw [if_pos q1] at hs
      refine qr_sw hC (tgt := 64) rfl q1 rfl ?_
      refine qr_s hC (n := 1) (pc' := 65) (ls' := [.ref 10]) (st' := [.int 1]) (h' := cw nR nN nT X ρ φ) rfl ?_
      have hs := Option.some.inj hs
      subst hs
      exact qr_r hC rfl rfl
    · rw [if_neg q1] at hs
      by_cases q2 : y1 = 134
      · rw [if_pos q2] at hs
        refine qr_sw hC (tgt := 64) rfl q2 rfl ?_
        refine qr_s hC (n := 1) (pc' := 65) (ls' := [.ref 10]) (st' := [.int 1]) (h' := cw nR nN nT X ρ φ) rfl ?_
        have hs := Option.some.inj hs
        subst hs
        exact qr_r hC rfl rfl
      · rw [if_neg q2] at hs
        by_cases q3 : y1 = 136
        · rw [if_pos q3] at hs
          refine qr_sw hC (tgt := 64) rfl q3 rfl ?_
          refine qr_s hC (n := 1) (pc' := 65) (ls' := [.ref 10]) (st' := [.int 1]) (h' := cw nR nN nT X ρ φ) rfl ?_
          have hs := Option.some.inj hs
          subst hs
          exact qr_r hC rfl rfl
        · rw [if_neg q3] at hs
          by_cases q4 : y1 = 137
          · rw [if_pos q4] at hs
            refine qr_sw hC (tgt := 64) rfl q4 rfl ?_
            refine qr_s hC (n := 1) (pc' := 65) (ls' := [.ref 10]) (st' := [.int 1]) (h' := cw nR nN nT X ρ φ) rfl ?_
            have hs := Option.some.inj hs
            subst hs
            exact qr_r hC rfl rfl
          · rw [if_neg q4] at hs
            by_cases q5 : y1 = 139
            · rw [if_pos q5] at hs
              refine qr_sw hC (tgt := 64) rfl q5 rfl ?_
              refine qr_s hC (n := 1) (pc' := 65) (ls' := [.ref 10]) (st' := [.int 1]) (h' := cw nR nN nT X ρ φ) rfl ?_
              have hs := Option.some.inj hs
              subst hs
              exact qr_r hC rfl rfl
            · rw [if_neg q5] at hs
              have z0 : Int32.toInt y1 ≠ 97 := fun z => q0 (Int32.toInt_inj.mp (z.trans (by decide)))
              have z1 : Int32.toInt y1 ≠ 133 := fun z => q1 (Int32.toInt_inj.mp (z.trans (by decide)))
              have z2 : Int32.toInt y1 ≠ 134 := fun z => q2 (Int32.toInt_inj.mp (z.trans (by decide)))
              have z3 : Int32.toInt y1 ≠ 136 := fun z => q3 (Int32.toInt_inj.mp (z.trans (by decide)))
              have z4 : Int32.toInt y1 ≠ 137 := fun z => q4 (Int32.toInt_inj.mp (z.trans (by decide)))
              have z5 : Int32.toInt y1 ≠ 139 := fun z => q5 (Int32.toInt_inj.mp (z.trans (by decide)))
              refine qr_lD (off := 62) (tgt := 66) hC rfl (by decide) ?_ (by decide) rfl ?_
              · simp only [Op.lookupswitch.offset]
                rw [if_neg (Ne.symm z0)]
                rw [if_neg (Ne.symm z1)]
                rw [if_neg (Ne.symm z2)]
                rw [if_neg (Ne.symm z3)]
                rw [if_neg (Ne.symm z4)]
                rw [if_neg (Ne.symm z5)]
              refine qr_s hC (n := 1) (pc' := 67) (ls' := [.ref 10]) (st' := [.int 0]) (h' := cw nR nN nT X ρ φ) rfl ?_
              have hs := Option.some.inj hs
              subst hs
              exact qr_r hC rfl rfl
/-- SketchFiller$Parser.levelOf(I)I -/
def pa_levelOf (F : Nat) (nR nN nT : Nat) (φ : qm_F) (x0 : Int32) : Option Int32 :=
  if x0 = 37 then
    some 4
  else
  if x0 = 38 then
    some 1
  else
  if x0 = 42 then
    some 4
  else
  if x0 = 43 then
    some 3
  else
  if x0 = 45 then
    some 3
  else
  if x0 = 47 then
    some 4
  else
  if x0 = 60 then
    some 2
  else
  if x0 = 61 then
    some 2
  else
  if x0 = 94 then
    some 0
  else
  if x0 = 124 then
    some 0
  else
  some (-1)
set_option maxRecDepth 100000 in
theorem pa_levelOf_n (F d : Nat) (nR nN nT : Nat) (X : List (Nat × Nat)) (ρ : Nat → Nat → Option Nat) (φ : qm_F) (x0 : Int32) (r : Int32) (hd : 0 ≤ d) (hs : pa_levelOf F nR nN nT φ x0 = some r) : qm_Rn d 190 0 [.int x0] [] (cw nR nN nT X ρ φ) (some (.int r), cw nR nN nT X ρ φ) := by
  have hC := qC_190
  unfold pa_levelOf at hs
  refine qr_s hC (n := 1) (pc' := 1) (ls' := [.int x0]) (st' := [.int x0]) (h' := cw nR nN nT X ρ φ) rfl ?_
  by_cases q0 : x0 = 37
  · rw [if_pos q0] at hs
    refine qr_sw hC (tgt := 100) rfl q0 rfl ?_
    refine qr_s hC (n := 1) (pc' := 101) (ls' := [.int x0]) (st' := [.int 4]) (h' := cw nR nN nT X ρ φ) rfl ?_
    have hs := Option.some.inj hs
    subst hs
    exact qr_r hC rfl rfl
  · rw [if_neg q0] at hs
    by_cases q1 : x0 = 38
    · rw [if_pos q1] at hs
      refine qr_sw hC (tgt := 94) rfl q1 rfl ?_
      refine qr_s hC (n := 1) (pc' := 95) (ls' := [.int x0]) (st' := [.int 1]) (h' := cw nR nN nT X ρ φ) rfl ?_
      have hs := Option.some.inj hs
      subst hs
      exact qr_r hC rfl rfl
    · rw [if_neg q1] at hs
      by_cases q2 : x0 = 42
      · rw [if_pos q2] at hs
        refine qr_sw hC (tgt := 100) rfl q2 rfl ?_
        refine qr_s hC (n := 1) (pc' := 101) (ls' := [.int x0]) (st' := [.int 4]) (h' := cw nR nN nT X ρ φ) rfl ?_
        have hs := Option.some.inj hs
        subst hs
        exact qr_r hC rfl rfl
      · rw [if_neg q2] at hs
        by_cases q3 : x0 = 43
        · rw [if_pos q3] at hs
          refine qr_sw hC (tgt := 98) rfl q3 rfl ?_
          refine qr_s hC (n := 1) (pc' := 99) (ls' := [.int x0]) (st' := [.int 3]) (h' := cw nR nN nT X ρ φ) rfl ?_
          have hs := Option.some.inj hs
          subst hs
          exact qr_r hC rfl rfl
        · rw [if_neg q3] at hs
          by_cases q4 : x0 = 45
          · rw [if_pos q4] at hs
            refine qr_sw hC (tgt := 98) rfl q4 rfl ?_
            refine qr_s hC (n := 1) (pc' := 99) (ls' := [.int x0]) (st' := [.int 3]) (h' := cw nR nN nT X ρ φ) rfl ?_
            have hs := Option.some.inj hs
            subst hs
            exact qr_r hC rfl rfl
          · rw [if_neg q4] at hs
            by_cases q5 : x0 = 47
            · rw [if_pos q5] at hs
              refine qr_sw hC (tgt := 100) rfl q5 rfl ?_
              refine qr_s hC (n := 1) (pc' := 101) (ls' := [.int x0]) (st' := [.int 4]) (h' := cw nR nN nT X ρ φ) rfl ?_
              have hs := Option.some.inj hs
              subst hs
              exact qr_r hC rfl rfl
            · rw [if_neg q5] at hs
              by_cases q6 : x0 = 60
              · rw [if_pos q6] at hs
                refine qr_sw hC (tgt := 96) rfl q6 rfl ?_
                refine qr_s hC (n := 1) (pc' := 97) (ls' := [.int x0]) (st' := [.int 2]) (h' := cw nR nN nT X ρ φ) rfl ?_
                have hs := Option.some.inj hs
                subst hs
                exact qr_r hC rfl rfl
              · rw [if_neg q6] at hs
                by_cases q7 : x0 = 61
                · rw [if_pos q7] at hs
                  refine qr_sw hC (tgt := 96) rfl q7 rfl ?_
                  refine qr_s hC (n := 1) (pc' := 97) (ls' := [.int x0]) (st' := [.int 2]) (h' := cw nR nN nT X ρ φ) rfl ?_
                  have hs := Option.some.inj hs
                  subst hs
                  exact qr_r hC rfl rfl
                · rw [if_neg q7] at hs
                  by_cases q8 : x0 = 94
                  · rw [if_pos q8] at hs
                    refine qr_sw hC (tgt := 92) rfl q8 rfl ?_
                    refine qr_s hC (n := 1) (pc' := 93) (ls' := [.int x0]) (st' := [.int 0]) (h' := cw nR nN nT X ρ φ) rfl ?_
                    have hs := Option.some.inj hs
                    subst hs
                    exact qr_r hC rfl rfl
                  · rw [if_neg q8] at hs
                    by_cases q9 : x0 = 124
                    · rw [if_pos q9] at hs
                      refine qr_sw hC (tgt := 92) rfl q9 rfl ?_
                      refine qr_s hC (n := 1) (pc' := 93) (ls' := [.int x0]) (st' := [.int 0]) (h' := cw nR nN nT X ρ φ) rfl ?_
                      have hs := Option.some.inj hs
                      subst hs
                      exact qr_r hC rfl rfl
                    · rw [if_neg q9] at hs
                      have z0 : Int32.toInt x0 ≠ 37 := fun z => q0 (Int32.toInt_inj.mp (z.trans (by decide)))
                      have z1 : Int32.toInt x0 ≠ 38 := fun z => q1 (Int32.toInt_inj.mp (z.trans (by decide)))
                      have z2 : Int32.toInt x0 ≠ 42 := fun z => q2 (Int32.toInt_inj.mp (z.trans (by decide)))
                      have z3 : Int32.toInt x0 ≠ 43 := fun z => q3 (Int32.toInt_inj.mp (z.trans (by decide)))
                      have z4 : Int32.toInt x0 ≠ 45 := fun z => q4 (Int32.toInt_inj.mp (z.trans (by decide)))
                      have z5 : Int32.toInt x0 ≠ 47 := fun z => q5 (Int32.toInt_inj.mp (z.trans (by decide)))
                      have z6 : Int32.toInt x0 ≠ 60 := fun z => q6 (Int32.toInt_inj.mp (z.trans (by decide)))
                      have z7 : Int32.toInt x0 ≠ 61 := fun z => q7 (Int32.toInt_inj.mp (z.trans (by decide)))
                      have z8 : Int32.toInt x0 ≠ 94 := fun z => q8 (Int32.toInt_inj.mp (z.trans (by decide)))
                      have z9 : Int32.toInt x0 ≠ 124 := fun z => q9 (Int32.toInt_inj.mp (z.trans (by decide)))
                      refine qr_lD (off := 101) (tgt := 102) hC rfl (by decide) ?_ (by decide) rfl ?_
                      · simp only [Op.lookupswitch.offset]
                        rw [if_neg (Ne.symm z0)]
                        rw [if_neg (Ne.symm z1)]
                        rw [if_neg (Ne.symm z2)]
                        rw [if_neg (Ne.symm z3)]
                        rw [if_neg (Ne.symm z4)]
                        rw [if_neg (Ne.symm z5)]
                        rw [if_neg (Ne.symm z6)]
                        rw [if_neg (Ne.symm z7)]
                        rw [if_neg (Ne.symm z8)]
                        rw [if_neg (Ne.symm z9)]
                      refine qr_s hC (n := 1) (pc' := 103) (ls' := [.int x0]) (st' := [.int (-1)]) (h' := cw nR nN nT X ρ φ) rfl ?_
                      have hs := Option.some.inj hs
                      subst hs
                      exact qr_r hC rfl rfl
/-- SketchFiller$Program.emit(III)I -/
def pr_emit (F : Nat) (nR nN nT : Nat) (φ : qm_F) (x1 : Int32) (x2 : Int32) (x3 : Int32) : Option (Int32 × qm_F) :=
  qg (decide (nT < 2147483648)) <|
  if (Int32.ofNat nT) ≤ (φ 14 13) then
    some ((φ 14 13) - 1, φ)
  else
    qg (qm_in (φ 14 13) nT) <|
    qg (qm_in (φ 14 13) nT) <|
    qg (qm_in (φ 14 13) nT) <|
    some (((φ 14 13) + 1) - 1, (qm_u (qm_u (qm_u (qm_u φ 20 ((φ 14 13).toNatClampNeg) x1) 21 ((φ 14 13).toNatClampNeg) x2) 22 ((φ 14 13).toNatClampNeg) x3) 14 13 ((φ 14 13) + 1)))
set_option maxRecDepth 100000 in
theorem pr_emit_n (F d : Nat) (nR nN nT : Nat) (X : List (Nat × Nat)) (ρ : Nat → Nat → Option Nat) (φ : qm_F) (x1 : Int32) (x2 : Int32) (x3 : Int32) (r : (Int32 × qm_F)) (hd : 0 ≤ d) (hs : pr_emit F nR nN nT φ x1 x2 x3 = some r) : qm_Rn d 197 0 [.ref 14, .int x1, .int x2, .int x3] [] (cw nR nN nT X ρ φ) (some (.int r.1), cw nR nN nT X ρ r.2) := by
  have hC := qC_197
  unfold pr_emit at hs
  refine qr_s hC (n := 4) (pc' := 8) (ls' := [.ref 14, .int x1, .int x2, .int x3]) (st' := [.ref 20, .int (φ 14 13)]) (h' := cw nR nN nT X ρ φ) rfl ?_
  obtain ⟨hq, hs⟩ := qg_s hs
  refine qr_al hC rfl rfl hq ?_
  refine qr_ge2 (tgt := 52) hC rfl (by decide) rfl (fun hc => ?_) (fun hc => ?_)
  · rw [if_pos hc] at hs
    refine qr_s hC (n := 4) (pc' := 58) (ls' := [.ref 14, .int x1, .int x2, .int x3]) (st' := [.int ((φ 14 13) - 1)]) (h' := cw nR nN nT X ρ φ) rfl ?_
    have hs := Option.some.inj hs
    subst hs
    exact qr_r hC rfl rfl
  · rw [if_neg hc] at hs
    refine qr_s hC (n := 5) (pc' := 21) (ls' := [.ref 14, .int x1, .int x2, .int x3]) (st' := [.int x1, .int (φ 14 13), .ref 20]) (h' := cw nR nN nT X ρ φ) rfl ?_
    obtain ⟨hq, hs⟩ := qg_s hs
    refine qr_is (h' := cw nR nN nT X ρ (qm_u φ 20 ((φ 14 13).toNatClampNeg) x1)) hC rfl rfl hq rfl ?_
    refine qr_s hC (n := 5) (pc' := 31) (ls' := [.ref 14, .int x1, .int x2, .int x3]) (st' := [.int x2, .int (φ 14 13), .ref 21]) (h' := cw nR nN nT X ρ (qm_u φ 20 ((φ 14 13).toNatClampNeg) x1)) rfl ?_
    obtain ⟨hq, hs⟩ := qg_s hs
    refine qr_is (h' := cw nR nN nT X ρ (qm_u (qm_u φ 20 ((φ 14 13).toNatClampNeg) x1) 21 ((φ 14 13).toNatClampNeg) x2)) hC rfl rfl hq rfl ?_
    refine qr_s hC (n := 5) (pc' := 41) (ls' := [.ref 14, .int x1, .int x2, .int x3]) (st' := [.int x3, .int (φ 14 13), .ref 22]) (h' := cw nR nN nT X ρ (qm_u (qm_u φ 20 ((φ 14 13).toNatClampNeg) x1) 21 ((φ 14 13).toNatClampNeg) x2)) rfl ?_
    obtain ⟨hq, hs⟩ := qg_s hs
    refine qr_is (h' := cw nR nN nT X ρ (qm_u (qm_u (qm_u φ 20 ((φ 14 13).toNatClampNeg) x1) 21 ((φ 14 13).toNatClampNeg) x2) 22 ((φ 14 13).toNatClampNeg) x3)) hC rfl rfl hq rfl ?_
    refine qr_s hC (n := 10) (pc' := 58) (ls' := [.ref 14, .int x1, .int x2, .int x3]) (st' := [.int (((φ 14 13) + 1) - 1)]) (h' := cw nR nN nT X ρ (qm_u (qm_u (qm_u (qm_u φ 20 ((φ 14 13).toNatClampNeg) x1) 21 ((φ 14 13).toNatClampNeg) x2) 22 ((φ 14 13).toNatClampNeg) x3) 14 13 ((φ 14 13) + 1))) rfl ?_
    have hs := Option.some.inj hs
    subst hs
    exact qr_r hC rfl rfl
/-- SketchFiller$Tokens.markHole(II)V -/
def to_markHole (F : Nat) (nR nN : Nat) (φ : qm_F) (x1 : Int32) (x2 : Int32) : Option qm_F :=
  if x1 < 0 then
    some φ
  else
    if (φ 4 5) ≤ x1 then
      some φ
    else
      qg (qm_in x1 (nN + 1)) <|
      qg (qm_in x1 (nN + 1)) <|
      some (qm_u (qm_u φ 6 x1.toNatClampNeg 2) 9 x1.toNatClampNeg x2)
set_option maxRecDepth 100000 in
theorem to_markHole_n (F d : Nat) (nR nN : Nat) (X : List (Nat × Nat)) (ρ : Nat → Nat → Option Nat) (φ : qm_F) (x1 : Int32) (x2 : Int32) (r : qm_F) (hd : 0 ≤ d) (hs : to_markHole F nR nN φ x1 x2 = some r) : qm_Rn d 268 0 [.ref 4, .int x1, .int x2] [] (ct nR nN X ρ φ) (none, ct nR nN X ρ r) := by
  have hC := qC_268
  unfold to_markHole at hs
  refine qr_s hC (n := 1) (pc' := 1) (ls' := [.ref 4, .int x1, .int x2]) (st' := [.int x1]) (h' := ct nR nN X ρ φ) rfl ?_
  refine qr_lt1 (tgt := 26) hC rfl (by decide) rfl (fun hc => ?_) (fun hc => ?_)
  · rw [if_pos hc] at hs
    have hs := Option.some.inj hs
    subst hs
    exact qr_r hC rfl rfl
  · rw [if_neg hc] at hs
    refine qr_s hC (n := 3) (pc' := 9) (ls' := [.ref 4, .int x1, .int x2]) (st' := [.int (φ 4 5), .int x1]) (h' := ct nR nN X ρ φ) rfl ?_
    refine qr_ge2 (tgt := 26) hC rfl (by decide) rfl (fun hc => ?_) (fun hc => ?_)
    · rw [if_pos hc] at hs
      have hs := Option.some.inj hs
      subst hs
      exact qr_r hC rfl rfl
    · rw [if_neg hc] at hs
      refine qr_s hC (n := 4) (pc' := 18) (ls' := [.ref 4, .int x1, .int x2]) (st' := [.int 2, .int x1, .ref 6]) (h' := ct nR nN X ρ φ) rfl ?_
      obtain ⟨hq, hs⟩ := qg_s hs
      refine qr_is (h' := ct nR nN X ρ (qm_u φ 6 x1.toNatClampNeg 2)) hC rfl rfl hq rfl ?_
      refine qr_s hC (n := 4) (pc' := 25) (ls' := [.ref 4, .int x1, .int x2]) (st' := [.int x2, .int x1, .ref 9]) (h' := ct nR nN X ρ (qm_u φ 6 x1.toNatClampNeg 2)) rfl ?_
      obtain ⟨hq, hs⟩ := qg_s hs
      refine qr_is (h' := ct nR nN X ρ (qm_u (qm_u φ 6 x1.toNatClampNeg 2) 9 x1.toNatClampNeg x2)) hC rfl rfl hq rfl ?_
      have hs := Option.some.inj hs
      subst hs
      exact qr_r hC rfl rfl
/-- SketchFiller$Parser.nameUsed()Z -/
def pa_nameUsed (F : Nat) (nR nN nT : Nat) (φ : qm_F) : Option (Int32 × qm_F) :=
  qb1 (to_numberOf F nR nN φ (φ 10 3)) fun y1 =>
  qb1 (na_slotOf F nR nN nT φ y1) fun y2 =>
  if ¬ y2 = (-1) then
    qb2 (pr_emit F nR nN nT φ 2 y2 0) fun y3 φ1 =>
    if y2 < 3 then
      some (1, (qm_u φ1 10 3 ((φ1 10 3) + 1)))
    else
      if 8 ≤ y2 then
        some (1, (qm_u φ1 10 3 ((φ1 10 3) + 1)))
      else
        qb1 (to_markHole F nR nN φ1 (φ1 10 3) (y2 - 3)) fun φ2 =>
        some (1, (qm_u φ2 10 3 ((φ2 10 3) + 1)))
  else
    qb2 (pa_fail F nR nN nT φ 2) fun y4 φ3 =>
    qg (qm_bz y4) (some (y4, φ3))
set_option maxRecDepth 100000 in
theorem pa_nameUsed_n (F d : Nat) (nR nN nT : Nat) (X : List (Nat × Nat)) (ρ : Nat → Nat → Option Nat) (φ : qm_F) (r : (Int32 × qm_F)) (hd : 2 ≤ d) (hs : pa_nameUsed F nR nN nT φ = some r) : qm_Rn d 193 0 [.ref 10, .retAddr 0] [] (cw nR nN nT X ρ φ) (some (.int r.1), cw nR nN nT X ρ r.2) := by
  obtain ⟨d, rfl⟩ : ∃ e, d = e + 1 := ⟨d - 1, by omega⟩
  have hC := qC_193
  unfold pa_nameUsed at hs
  refine qr_s hC (n := 6) (pc' := 12) (ls' := [.ref 10, .retAddr 0]) (st' := [.int (φ 10 3), .ref 4, .ref 11]) (h' := cw nR nN nT X ρ φ) rfl ?_
  obtain ⟨y1, hy, hs⟩ := qb1_s hs
  refine qr_c (j := 267) (as := [.ref 4, .int (φ 10 3)]) (rest := [.ref 11]) (v := some (.int y1)) (h1 := cw nR nN nT X ρ φ) hC rfl rfl qC_267 rfl rfl (to_numberOf_n F d nR nN (cw_X nT X) (cw_R ρ) φ (φ 10 3) _ (by omega) hy) ?_
  show qm_Rn (d + 1) 193 15 [.ref 10, .retAddr 0] [.int y1, .ref 11] (cw nR nN nT X ρ φ) _
  obtain ⟨y2, hy, hs⟩ := qb1_s hs
  refine qr_c (j := 162) (as := [.ref 11, .int y1]) (rest := []) (v := some (.int y2)) (h1 := cw nR nN nT X ρ φ) hC rfl rfl qC_162 rfl rfl (na_slotOf_n F d nR nN nT X ρ φ y1 _ (by omega) hy) ?_
  show qm_Rn (d + 1) 193 18 [.ref 10, .retAddr 0] [.int y2] (cw nR nN nT X ρ φ) _
  refine qr_s hC (n := 3) (pc' := 21) (ls' := [.ref 10, .int y2]) (st' := [.int (-1), .int y2]) (h' := cw nR nN nT X ρ φ) rfl ?_
  refine qr_ne2 (tgt := 30) hC rfl (by decide) rfl (fun hc => ?_) (fun hc => ?_)
  · rw [if_pos hc] at hs
    refine qr_s hC (n := 5) (pc' := 37) (ls' := [.ref 10, .int y2]) (st' := [.int 0, .int y2, .int 2, .ref 14]) (h' := cw nR nN nT X ρ φ) rfl ?_
    obtain ⟨y3, φ1, hy, hs⟩ := qb2_s hs
    refine qr_c (j := 197) (as := [.ref 14, .int 2, .int y2, .int 0]) (rest := []) (v := some (.int y3)) (h1 := cw nR nN nT X ρ φ1) hC rfl rfl qC_197 rfl rfl (pr_emit_n F d nR nN nT X ρ φ 2 y2 0 _ (by omega) hy) ?_
    show qm_Rn (d + 1) 193 40 [.ref 10, .int y2] [.int y3] (cw nR nN nT X ρ φ1) _
    refine qr_s hC (n := 3) (pc' := 43) (ls' := [.ref 10, .int y2]) (st' := [.int 3, .int y2]) (h' := cw nR nN nT X ρ φ1) rfl ?_
    refine qr_lt2 (tgt := 66) hC rfl (by decide) rfl (fun hc => ?_) (fun hc => ?_)
    · rw [if_pos hc] at hs
      refine qr_s hC (n := 7) (pc' := 77) (ls' := [.ref 10, .int y2]) (st' := [.int 1]) (h' := cw nR nN nT X ρ (qm_u φ1 10 3 ((φ1 10 3) + 1))) rfl ?_
      have hs := Option.some.inj hs
      subst hs
      exact qr_r hC rfl rfl
    · rw [if_neg hc] at hs
      refine qr_s hC (n := 2) (pc' := 49) (ls' := [.ref 10, .int y2]) (st' := [.int 8, .int y2]) (h' := cw nR nN nT X ρ φ1) rfl ?_
      refine qr_ge2 (tgt := 66) hC rfl (by decide) rfl (fun hc => ?_) (fun hc => ?_)
      · rw [if_pos hc] at hs
        refine qr_s hC (n := 7) (pc' := 77) (ls' := [.ref 10, .int y2]) (st' := [.int 1]) (h' := cw nR nN nT X ρ (qm_u φ1 10 3 ((φ1 10 3) + 1))) rfl ?_
        have hs := Option.some.inj hs
        subst hs
        exact qr_r hC rfl rfl
      · rw [if_neg hc] at hs
        refine qr_s hC (n := 7) (pc' := 63) (ls' := [.ref 10, .int y2]) (st' := [.int (y2 - 3), .int (φ1 10 3), .ref 4]) (h' := cw nR nN nT X ρ φ1) rfl ?_
        obtain ⟨φ2, hy, hs⟩ := qb1_s hs
        refine qr_c (j := 268) (as := [.ref 4, .int (φ1 10 3), .int (y2 - 3)]) (rest := []) (v := none) (h1 := cw nR nN nT X ρ φ2) hC rfl rfl qC_268 rfl rfl (to_markHole_n F d nR nN (cw_X nT X) (cw_R ρ) φ1 (φ1 10 3) (y2 - 3) _ (by omega) hy) ?_
        show qm_Rn (d + 1) 193 66 [.ref 10, .int y2] [] (cw nR nN nT X ρ φ2) _
        refine qr_s hC (n := 7) (pc' := 77) (ls' := [.ref 10, .int y2]) (st' := [.int 1]) (h' := cw nR nN nT X ρ (qm_u φ2 10 3 ((φ2 10 3) + 1))) rfl ?_
        have hs := Option.some.inj hs
        subst hs
        exact qr_r hC rfl rfl
  · rw [if_neg hc] at hs
    refine qr_s hC (n := 2) (pc' := 26) (ls' := [.ref 10, .int y2]) (st' := [.int 2, .ref 10]) (h' := cw nR nN nT X ρ φ) rfl ?_
    obtain ⟨y4, φ3, hy, hs⟩ := qb2_s hs
    refine qr_c (j := 170) (as := [.ref 10, .int 2]) (rest := []) (v := some (.int y4)) (h1 := cw nR nN nT X ρ φ3) hC rfl rfl qC_170 rfl rfl (pa_fail_n F d nR nN nT X ρ φ 2 _ (by omega) hy) ?_
    show qm_Rn (d + 1) 193 29 [.ref 10, .int y2] [.int y4] (cw nR nN nT X ρ φ3) _
    obtain ⟨hz, hs⟩ := qg_s hs
    have hs := Option.some.inj hs
    subst hs
    exact qr_rz hC rfl hz
def cg_E_ok (nR nN nT : Nat) (X : List (Nat × Nat)) (ρ : Nat → Nat → Option Nat) (d t : Nat) (φ : qm_F) (a b : Int32) (r : Int32 × qm_F) : Prop :=
  if t = 0 then qm_Rn d 189 0 [.ref 10, .int a, .int b, .retAddr 0, .retAddr 0, .retAddr 0] [] (cw nR nN nT X ρ φ) (some (.int r.1), cw nR nN nT X ρ r.2) else
  if t = 1 then qm_Rn d 191 0 [.ref 10, .int a, .retAddr 0] [] (cw nR nN nT X ρ φ) (some (.int r.1), cw nR nN nT X ρ r.2) else
  qm_Rn d 192 0 [.ref 10, .int a] [] (cw nR nN nT X ρ φ) (some (.int r.1), cw nR nN nT X ρ r.2)

/-- SketchFiller$Parser.expression(II)Z -/
def pa_expression_L44 (F : Nat) (nR nN nT : Nat) (g : Nat → qm_F → Int32 → Int32 → Option (Int32 × qm_F)) : Nat → qm_F → Int32 → Int32 → Int32 → Int32 → Option (Int32 × qm_F)
  | 0, _, _, _, _, _ => none
  | n + 1, φ, x1, x2, x3, x4 =>
    if x3 ≤ x4 then
      some (1, φ)
    else
      qb1 (pa_kind F nR nN nT φ) fun y1 =>
      qb1 (pa_levelOf F nR nN nT φ y1) fun y2 =>
      if ¬ y2 = x1 then
        some (1, φ)
      else
        qb1 (pa_kind F nR nN nT φ) fun y3 =>
        qb2 (g 0 (qm_u φ 10 3 ((φ 10 3) + 1)) (x1 + 1) x2) fun y4 φ1 =>
        if ¬ y4 = 0 then
          qb2 (pr_emit F nR nN nT φ1 y3 0 0) fun y5 φ2 =>
          pa_expression_L44 F nR nN nT g n φ2 x1 x2 x3 (x4 + 1)
        else
          some (0, φ1)
def pa_expression (F : Nat) (nR nN nT : Nat) (g : Nat → qm_F → Int32 → Int32 → Option (Int32 × qm_F)) (φ : qm_F) (x1 : Int32) (x2 : Int32) : Option (Int32 × qm_F) :=
  if x1 < 5 then
    qb2 (g 0 φ (x1 + 1) x2) fun y1 φ1 =>
    if ¬ y1 = 0 then
      if ¬ x1 = 2 then
        qb1 (to_count F nR nN φ1) fun y2 =>
        pa_expression_L44 F nR nN nT g F φ1 x1 x2 y2 0
      else
        pa_expression_L44 F nR nN nT g F φ1 x1 x2 1 0
    else
      some (0, φ1)
  else
    qb2 (g 1 φ x2 0) fun y3 φ2 =>
    qg (qm_bz y3) (some (y3, φ2))
set_option maxRecDepth 100000 in
theorem pa_expression_L44_n (F d : Nat) (nR nN nT : Nat) (X : List (Nat × Nat)) (ρ : Nat → Nat → Option Nat) (g : Nat → qm_F → Int32 → Int32 → Option (Int32 × qm_F)) (hg : ∀ t φ a b r, g t φ a b = some r → cg_E_ok nR nN nT X ρ (d - 1) t φ a b r) (hd : 3 ≤ d) : ∀ (n : Nat) (φ : qm_F) (x1 : Int32) (x2 : Int32) (x3 : Int32) (x4 : Int32) (r : (Int32 × qm_F)), pa_expression_L44 F nR nN nT g n φ x1 x2 x3 x4 = some r → qm_Rn d 189 44 [.ref 10, .int x1, .int x2, .int x3, .int x4, .retAddr 0] [] (cw nR nN nT X ρ φ) (some (.int r.1), cw nR nN nT X ρ r.2) := by
  obtain ⟨d, rfl⟩ : ∃ e, d = e + 1 := ⟨d - 1, by omega⟩
  simp only [Nat.add_sub_cancel] at hg
  have hC := qC_189
  intro n
  induction n with
  | zero => intro φ x1 x2 x3 x4 r hs; simp [pa_expression_L44] at hs
  | succ n ih =>
    intro φ x1 x2 x3 x4 r hs
    rw [pa_expression_L44] at hs
    refine qr_s hC (n := 2) (pc' := 47) (ls' := [.ref 10, .int x1, .int x2, .int x3, .int x4, .retAddr 0]) (st' := [.int x3, .int x4]) (h' := cw nR nN nT X ρ φ) rfl ?_
    refine qr_ge2 (tgt := 108) hC rfl (by decide) rfl (fun hc => ?_) (fun hc => ?_)
    · rw [if_pos hc] at hs
      refine qr_s hC (n := 1) (pc' := 109) (ls' := [.ref 10, .int x1, .int x2, .int x3, .int x4, .retAddr 0]) (st' := [.int 1]) (h' := cw nR nN nT X ρ φ) rfl ?_
      have hs := Option.some.inj hs
      subst hs
      exact qr_r hC rfl rfl
    · rw [if_neg hc] at hs
      refine qr_s hC (n := 1) (pc' := 51) (ls' := [.ref 10, .int x1, .int x2, .int x3, .int x4, .retAddr 0]) (st' := [.ref 10]) (h' := cw nR nN nT X ρ φ) rfl ?_
      obtain ⟨y1, hy, hs⟩ := qb1_s hs
      refine qr_c (j := 169) (as := [.ref 10]) (rest := []) (v := some (.int y1)) (h1 := cw nR nN nT X ρ φ) hC rfl rfl qC_169 rfl rfl (pa_kind_n F d nR nN nT X ρ φ _ (by omega) hy) ?_
      show qm_Rn (d + 1) 189 54 [.ref 10, .int x1, .int x2, .int x3, .int x4, .retAddr 0] [.int y1] (cw nR nN nT X ρ φ) _
      obtain ⟨y2, hy, hs⟩ := qb1_s hs
      refine qr_c (j := 190) (as := [.int y1]) (rest := []) (v := some (.int y2)) (h1 := cw nR nN nT X ρ φ) hC rfl rfl qC_190 rfl rfl (pa_levelOf_n F d nR nN nT X ρ φ y1 _ (by omega) hy) ?_
      show qm_Rn (d + 1) 189 57 [.ref 10, .int x1, .int x2, .int x3, .int x4, .retAddr 0] [.int y2] (cw nR nN nT X ρ φ) _
      refine qr_s hC (n := 1) (pc' := 58) (ls' := [.ref 10, .int x1, .int x2, .int x3, .int x4, .retAddr 0]) (st' := [.int x1, .int y2]) (h' := cw nR nN nT X ρ φ) rfl ?_
      refine qr_ne2 (tgt := 108) hC rfl (by decide) rfl (fun hc => ?_) (fun hc => ?_)
      · rw [if_pos hc] at hs
        refine qr_s hC (n := 1) (pc' := 109) (ls' := [.ref 10, .int x1, .int x2, .int x3, .int x4, .retAddr 0]) (st' := [.int 1]) (h' := cw nR nN nT X ρ φ) rfl ?_
        have hs := Option.some.inj hs
        subst hs
        exact qr_r hC rfl rfl
      · rw [if_neg hc] at hs
        refine qr_s hC (n := 1) (pc' := 62) (ls' := [.ref 10, .int x1, .int x2, .int x3, .int x4, .retAddr 0]) (st' := [.ref 10]) (h' := cw nR nN nT X ρ φ) rfl ?_
        obtain ⟨y3, hy, hs⟩ := qb1_s hs
        refine qr_c (j := 169) (as := [.ref 10]) (rest := []) (v := some (.int y3)) (h1 := cw nR nN nT X ρ φ) hC rfl rfl qC_169 rfl rfl (pa_kind_n F d nR nN nT X ρ φ _ (by omega) hy) ?_
        show qm_Rn (d + 1) 189 65 [.ref 10, .int x1, .int x2, .int x3, .int x4, .retAddr 0] [.int y3] (cw nR nN nT X ρ φ) _
        refine qr_s hC (n := 12) (pc' := 82) (ls' := [.ref 10, .int x1, .int x2, .int x3, .int x4, .int y3]) (st' := [.int x2, .int (x1 + 1), .ref 10]) (h' := cw nR nN nT X ρ (qm_u φ 10 3 ((φ 10 3) + 1))) rfl ?_
        obtain ⟨y4, φ1, hy, hs⟩ := qb2_s hs
        refine qr_c (j := 189) (as := [.ref 10, .int (x1 + 1), .int x2]) (rest := []) (v := some (.int y4)) (h1 := cw nR nN nT X ρ φ1) hC rfl rfl qC_189 rfl rfl (hg 0 (qm_u φ 10 3 ((φ 10 3) + 1)) (x1 + 1) x2 _ hy) ?_
        show qm_Rn (d + 1) 189 85 [.ref 10, .int x1, .int x2, .int x3, .int x4, .int y3] [.int y4] (cw nR nN nT X ρ φ1) _
        refine qr_ne1 (tgt := 90) hC rfl (by decide) rfl (fun hc => ?_) (fun hc => ?_)
        · rw [if_pos hc] at hs
          refine qr_s hC (n := 5) (pc' := 98) (ls' := [.ref 10, .int x1, .int x2, .int x3, .int x4, .int y3]) (st' := [.int 0, .int 0, .int y3, .ref 14]) (h' := cw nR nN nT X ρ φ1) rfl ?_
          obtain ⟨y5, φ2, hy, hs⟩ := qb2_s hs
          refine qr_c (j := 197) (as := [.ref 14, .int y3, .int 0, .int 0]) (rest := []) (v := some (.int y5)) (h1 := cw nR nN nT X ρ φ2) hC rfl rfl qC_197 rfl rfl (pr_emit_n F d nR nN nT X ρ φ1 y3 0 0 _ (by omega) hy) ?_
          show qm_Rn (d + 1) 189 101 [.ref 10, .int x1, .int x2, .int x3, .int x4, .int y3] [.int y5] (cw nR nN nT X ρ φ2) _
          refine qr_s hC (n := 3) (pc' := 44) (ls' := [.ref 10, .int x1, .int x2, .int x3, .int (x4 + 1), .int y3]) (st' := []) (h' := cw nR nN nT X ρ φ2) rfl ?_
          exact qr_w (a := [.ref 10, .int x1, .int x2, .int x3, .int (x4 + 1), .retAddr 0]) ⟨Or.inr rfl, Or.inr rfl, Or.inr rfl, Or.inr rfl, Or.inr rfl, Or.inl rfl, trivial⟩ (ih φ2 x1 x2 x3 (x4 + 1) _ hs)
        · rw [if_neg hc] at hs
          refine qr_s hC (n := 1) (pc' := 89) (ls' := [.ref 10, .int x1, .int x2, .int x3, .int x4, .int y3]) (st' := [.int 0]) (h' := cw nR nN nT X ρ φ1) rfl ?_
          have hs := Option.some.inj hs
          subst hs
          exact qr_r hC rfl rfl
set_option maxRecDepth 100000 in
theorem pa_expression_n (F d : Nat) (nR nN nT : Nat) (X : List (Nat × Nat)) (ρ : Nat → Nat → Option Nat) (g : Nat → qm_F → Int32 → Int32 → Option (Int32 × qm_F)) (hg : ∀ t φ a b r, g t φ a b = some r → cg_E_ok nR nN nT X ρ (d - 1) t φ a b r) (hd : 3 ≤ d) (φ : qm_F) (x1 : Int32) (x2 : Int32) (r : (Int32 × qm_F)) (hs : pa_expression F nR nN nT g φ x1 x2 = some r) : qm_Rn d 189 0 [.ref 10, .int x1, .int x2, .retAddr 0, .retAddr 0, .retAddr 0] [] (cw nR nN nT X ρ φ) (some (.int r.1), cw nR nN nT X ρ r.2) := by
  obtain ⟨d, rfl⟩ : ∃ e, d = e + 1 := ⟨d - 1, by omega⟩
  simp only [Nat.add_sub_cancel] at hg
  have hC := qC_189
  unfold pa_expression at hs
  refine qr_s hC (n := 2) (pc' := 2) (ls' := [.ref 10, .int x1, .int x2, .retAddr 0, .retAddr 0, .retAddr 0]) (st' := [.int 5, .int x1]) (h' := cw nR nN nT X ρ φ) rfl ?_
  refine qr_lt2 (tgt := 11) hC rfl (by decide) rfl (fun hc => ?_) (fun hc => ?_)
  · rw [if_pos hc] at hs
    refine qr_s hC (n := 5) (pc' := 16) (ls' := [.ref 10, .int x1, .int x2, .retAddr 0, .retAddr 0, .retAddr 0]) (st' := [.int x2, .int (x1 + 1), .ref 10]) (h' := cw nR nN nT X ρ φ) rfl ?_
    obtain ⟨y1, φ1, hy, hs⟩ := qb2_s hs
    refine qr_c (j := 189) (as := [.ref 10, .int (x1 + 1), .int x2]) (rest := []) (v := some (.int y1)) (h1 := cw nR nN nT X ρ φ1) hC rfl rfl qC_189 rfl rfl (hg 0 φ (x1 + 1) x2 _ hy) ?_
    show qm_Rn (d + 1) 189 19 [.ref 10, .int x1, .int x2, .retAddr 0, .retAddr 0, .retAddr 0] [.int y1] (cw nR nN nT X ρ φ1) _
    refine qr_ne1 (tgt := 24) hC rfl (by decide) rfl (fun hc => ?_) (fun hc => ?_)
    · rw [if_pos hc] at hs
      refine qr_s hC (n := 2) (pc' := 26) (ls' := [.ref 10, .int x1, .int x2, .retAddr 0, .retAddr 0, .retAddr 0]) (st' := [.int 2, .int x1]) (h' := cw nR nN nT X ρ φ1) rfl ?_
      refine qr_ne2 (tgt := 33) hC rfl (by decide) rfl (fun hc => ?_) (fun hc => ?_)
      · rw [if_pos hc] at hs
        refine qr_s hC (n := 2) (pc' := 37) (ls' := [.ref 10, .int x1, .int x2, .retAddr 0, .retAddr 0, .retAddr 0]) (st' := [.ref 4]) (h' := cw nR nN nT X ρ φ1) rfl ?_
        obtain ⟨y2, hy, hs⟩ := qb1_s hs
        refine qr_c (j := 264) (as := [.ref 4]) (rest := []) (v := some (.int y2)) (h1 := cw nR nN nT X ρ φ1) hC rfl rfl qC_264 rfl rfl (to_count_n F d nR nN (cw_X nT X) (cw_R ρ) φ1 _ (by omega) hy) ?_
        show qm_Rn (d + 1) 189 40 [.ref 10, .int x1, .int x2, .retAddr 0, .retAddr 0, .retAddr 0] [.int y2] (cw nR nN nT X ρ φ1) _
        refine qr_s hC (n := 3) (pc' := 44) (ls' := [.ref 10, .int x1, .int x2, .int y2, .int 0, .retAddr 0]) (st' := []) (h' := cw nR nN nT X ρ φ1) rfl ?_
        exact pa_expression_L44_n F (d + 1) nR nN nT X ρ g hg (by omega) F φ1 x1 x2 y2 0 _ hs
      · rw [if_neg hc] at hs
        refine qr_s hC (n := 5) (pc' := 44) (ls' := [.ref 10, .int x1, .int x2, .int 1, .int 0, .retAddr 0]) (st' := []) (h' := cw nR nN nT X ρ φ1) rfl ?_
        exact pa_expression_L44_n F (d + 1) nR nN nT X ρ g hg (by omega) F φ1 x1 x2 1 0 _ hs
    · rw [if_neg hc] at hs
      refine qr_s hC (n := 1) (pc' := 23) (ls' := [.ref 10, .int x1, .int x2, .retAddr 0, .retAddr 0, .retAddr 0]) (st' := [.int 0]) (h' := cw nR nN nT X ρ φ1) rfl ?_
      have hs := Option.some.inj hs
      subst hs
      exact qr_r hC rfl rfl
  · rw [if_neg hc] at hs
    refine qr_s hC (n := 2) (pc' := 7) (ls' := [.ref 10, .int x1, .int x2, .retAddr 0, .retAddr 0, .retAddr 0]) (st' := [.int x2, .ref 10]) (h' := cw nR nN nT X ρ φ) rfl ?_
    obtain ⟨y3, φ2, hy, hs⟩ := qb2_s hs
    refine qr_c (j := 191) (as := [.ref 10, .int x2]) (rest := []) (v := some (.int y3)) (h1 := cw nR nN nT X ρ φ2) hC rfl rfl qC_191 rfl rfl (hg 1 φ x2 0 _ hy) ?_
    show qm_Rn (d + 1) 189 10 [.ref 10, .int x1, .int x2, .retAddr 0, .retAddr 0, .retAddr 0] [.int y3] (cw nR nN nT X ρ φ2) _
    obtain ⟨hz, hs⟩ := qg_s hs
    have hs := Option.some.inj hs
    subst hs
    exact qr_rz hC rfl hz

/-- SketchFiller$Parser.unary(I)Z -/
def pa_unary_L72 (F : Nat) (nR nN nT : Nat) (g : Nat → qm_F → Int32 → Int32 → Option (Int32 × qm_F)) (φ : qm_F) (s0 : Int32) : Option (Int32 × qm_F) :=
  qb2 (pr_emit F nR nN nT φ s0 0 0) fun y1 φ1 =>
  some (1, φ1)
def pa_unary_L23 (F : Nat) (nR nN nT : Nat) (g : Nat → qm_F → Int32 → Int32 → Option (Int32 × qm_F)) (φ : qm_F) (x1 : Int32) (x2 : Int32) : Option (Int32 × qm_F) :=
  if x1 < 6 then
    qb2 (g 1 (qm_u φ 10 3 ((φ 10 3) + 1)) (x1 + 1) 0) fun y1 φ1 =>
    if ¬ y1 = 0 then
      if ¬ x2 = 126 then
        pa_unary_L72 F nR nN nT g φ1 4
      else
        pa_unary_L72 F nR nN nT g φ1 5
    else
      some (0, φ1)
  else
    qb2 (pa_fail F nR nN nT φ 5) fun y2 φ2 =>
    qg (qm_bz y2) (some (y2, φ2))
def pa_unary (F : Nat) (nR nN nT : Nat) (g : Nat → qm_F → Int32 → Int32 → Option (Int32 × qm_F)) (φ : qm_F) (x1 : Int32) : Option (Int32 × qm_F) :=
  qb1 (pa_kind F nR nN nT φ) fun y1 =>
  if y1 = 126 then
    pa_unary_L23 F nR nN nT g φ x1 y1
  else
    if y1 = 45 then
      pa_unary_L23 F nR nN nT g φ x1 y1
    else
      qb2 (g 2 φ x1 0) fun y2 φ1 =>
      qg (qm_bz y2) (some (y2, φ1))
set_option maxRecDepth 100000 in
theorem pa_unary_L72_n (F d : Nat) (nR nN nT : Nat) (X : List (Nat × Nat)) (ρ : Nat → Nat → Option Nat) (g : Nat → qm_F → Int32 → Int32 → Option (Int32 × qm_F)) (hg : ∀ t φ a b r, g t φ a b = some r → cg_E_ok nR nN nT X ρ (d - 1) t φ a b r) (hd : 3 ≤ d) (φ : qm_F) (s0 : Int32) (r : (Int32 × qm_F)) (hs : pa_unary_L72 F nR nN nT g φ s0 = some r) : qm_Rn d 191 72 [.retAddr 0, .retAddr 0, .retAddr 0] [.int s0, .ref 14] (cw nR nN nT X ρ φ) (some (.int r.1), cw nR nN nT X ρ r.2) := by
  obtain ⟨d, rfl⟩ : ∃ e, d = e + 1 := ⟨d - 1, by omega⟩
  simp only [Nat.add_sub_cancel] at hg
  have hC := qC_191
  unfold pa_unary_L72 at hs
  refine qr_s hC (n := 2) (pc' := 74) (ls' := [.retAddr 0, .retAddr 0, .retAddr 0]) (st' := [.int 0, .int 0, .int s0, .ref 14]) (h' := cw nR nN nT X ρ φ) rfl ?_
  obtain ⟨y1, φ1, hy, hs⟩ := qb2_s hs
  refine qr_c (j := 197) (as := [.ref 14, .int s0, .int 0, .int 0]) (rest := []) (v := some (.int y1)) (h1 := cw nR nN nT X ρ φ1) hC rfl rfl qC_197 rfl rfl (pr_emit_n F d nR nN nT X ρ φ s0 0 0 _ (by omega) hy) ?_
  show qm_Rn (d + 1) 191 77 [.retAddr 0, .retAddr 0, .retAddr 0] [.int y1] (cw nR nN nT X ρ φ1) _
  refine qr_s hC (n := 2) (pc' := 79) (ls' := [.retAddr 0, .retAddr 0, .retAddr 0]) (st' := [.int 1]) (h' := cw nR nN nT X ρ φ1) rfl ?_
  have hs := Option.some.inj hs
  subst hs
  exact qr_r hC rfl rfl
set_option maxRecDepth 100000 in
theorem pa_unary_L23_n (F d : Nat) (nR nN nT : Nat) (X : List (Nat × Nat)) (ρ : Nat → Nat → Option Nat) (g : Nat → qm_F → Int32 → Int32 → Option (Int32 × qm_F)) (hg : ∀ t φ a b r, g t φ a b = some r → cg_E_ok nR nN nT X ρ (d - 1) t φ a b r) (hd : 3 ≤ d) (φ : qm_F) (x1 : Int32) (x2 : Int32) (r : (Int32 × qm_F)) (hs : pa_unary_L23 F nR nN nT g φ x1 x2 = some r) : qm_Rn d 191 23 [.ref 10, .int x1, .int x2] [] (cw nR nN nT X ρ φ) (some (.int r.1), cw nR nN nT X ρ r.2) := by
  obtain ⟨d, rfl⟩ : ∃ e, d = e + 1 := ⟨d - 1, by omega⟩
  simp only [Nat.add_sub_cancel] at hg
  have hC := qC_191
  unfold pa_unary_L23 at hs
  refine qr_s hC (n := 2) (pc' := 26) (ls' := [.ref 10, .int x1, .int x2]) (st' := [.int 6, .int x1]) (h' := cw nR nN nT X ρ φ) rfl ?_
  refine qr_lt2 (tgt := 35) hC rfl (by decide) rfl (fun hc => ?_) (fun hc => ?_)
  · rw [if_pos hc] at hs
    refine qr_s hC (n := 10) (pc' := 49) (ls' := [.ref 10, .int x1, .int x2]) (st' := [.int (x1 + 1), .ref 10]) (h' := cw nR nN nT X ρ (qm_u φ 10 3 ((φ 10 3) + 1))) rfl ?_
    obtain ⟨y1, φ1, hy, hs⟩ := qb2_s hs
    refine qr_c (j := 191) (as := [.ref 10, .int (x1 + 1)]) (rest := []) (v := some (.int y1)) (h1 := cw nR nN nT X ρ φ1) hC rfl rfl qC_191 rfl rfl (hg 1 (qm_u φ 10 3 ((φ 10 3) + 1)) (x1 + 1) 0 _ hy) ?_
    show qm_Rn (d + 1) 191 52 [.ref 10, .int x1, .int x2] [.int y1] (cw nR nN nT X ρ φ1) _
    refine qr_ne1 (tgt := 57) hC rfl (by decide) rfl (fun hc => ?_) (fun hc => ?_)
    · rw [if_pos hc] at hs
      refine qr_s hC (n := 4) (pc' := 64) (ls' := [.ref 10, .int x1, .int x2]) (st' := [.int 126, .int x2, .ref 14]) (h' := cw nR nN nT X ρ φ1) rfl ?_
      refine qr_ne2 (tgt := 71) hC rfl (by decide) rfl (fun hc => ?_) (fun hc => ?_)
      · rw [if_pos hc] at hs
        refine qr_s hC (n := 1) (pc' := 72) (ls' := [.ref 10, .int x1, .int x2]) (st' := [.int 4, .ref 14]) (h' := cw nR nN nT X ρ φ1) rfl ?_
        exact qr_w (a := [.retAddr 0, .retAddr 0, .retAddr 0]) ⟨Or.inl rfl, Or.inl rfl, Or.inl rfl, trivial⟩ (pa_unary_L72_n F (d + 1) nR nN nT X ρ g hg (by omega) φ1 4 _ hs)
      · rw [if_neg hc] at hs
        refine qr_s hC (n := 2) (pc' := 72) (ls' := [.ref 10, .int x1, .int x2]) (st' := [.int 5, .ref 14]) (h' := cw nR nN nT X ρ φ1) rfl ?_
        exact qr_w (a := [.retAddr 0, .retAddr 0, .retAddr 0]) ⟨Or.inl rfl, Or.inl rfl, Or.inl rfl, trivial⟩ (pa_unary_L72_n F (d + 1) nR nN nT X ρ g hg (by omega) φ1 5 _ hs)
    · rw [if_neg hc] at hs
      refine qr_s hC (n := 1) (pc' := 56) (ls' := [.ref 10, .int x1, .int x2]) (st' := [.int 0]) (h' := cw nR nN nT X ρ φ1) rfl ?_
      have hs := Option.some.inj hs
      subst hs
      exact qr_r hC rfl rfl
  · rw [if_neg hc] at hs
    refine qr_s hC (n := 2) (pc' := 31) (ls' := [.ref 10, .int x1, .int x2]) (st' := [.int 5, .ref 10]) (h' := cw nR nN nT X ρ φ) rfl ?_
    obtain ⟨y2, φ2, hy, hs⟩ := qb2_s hs
    refine qr_c (j := 170) (as := [.ref 10, .int 5]) (rest := []) (v := some (.int y2)) (h1 := cw nR nN nT X ρ φ2) hC rfl rfl qC_170 rfl rfl (pa_fail_n F d nR nN nT X ρ φ 5 _ (by omega) hy) ?_
    show qm_Rn (d + 1) 191 34 [.ref 10, .int x1, .int x2] [.int y2] (cw nR nN nT X ρ φ2) _
    obtain ⟨hz, hs⟩ := qg_s hs
    have hs := Option.some.inj hs
    subst hs
    exact qr_rz hC rfl hz
set_option maxRecDepth 100000 in
theorem pa_unary_n (F d : Nat) (nR nN nT : Nat) (X : List (Nat × Nat)) (ρ : Nat → Nat → Option Nat) (g : Nat → qm_F → Int32 → Int32 → Option (Int32 × qm_F)) (hg : ∀ t φ a b r, g t φ a b = some r → cg_E_ok nR nN nT X ρ (d - 1) t φ a b r) (hd : 3 ≤ d) (φ : qm_F) (x1 : Int32) (r : (Int32 × qm_F)) (hs : pa_unary F nR nN nT g φ x1 = some r) : qm_Rn d 191 0 [.ref 10, .int x1, .retAddr 0] [] (cw nR nN nT X ρ φ) (some (.int r.1), cw nR nN nT X ρ r.2) := by
  obtain ⟨d, rfl⟩ : ∃ e, d = e + 1 := ⟨d - 1, by omega⟩
  simp only [Nat.add_sub_cancel] at hg
  have hC := qC_191
  unfold pa_unary at hs
  refine qr_s hC (n := 1) (pc' := 1) (ls' := [.ref 10, .int x1, .retAddr 0]) (st' := [.ref 10]) (h' := cw nR nN nT X ρ φ) rfl ?_
  obtain ⟨y1, hy, hs⟩ := qb1_s hs
  refine qr_c (j := 169) (as := [.ref 10]) (rest := []) (v := some (.int y1)) (h1 := cw nR nN nT X ρ φ) hC rfl rfl qC_169 rfl rfl (pa_kind_n F d nR nN nT X ρ φ _ (by omega) hy) ?_
  show qm_Rn (d + 1) 191 4 [.ref 10, .int x1, .retAddr 0] [.int y1] (cw nR nN nT X ρ φ) _
  refine qr_s hC (n := 3) (pc' := 8) (ls' := [.ref 10, .int x1, .int y1]) (st' := [.int 126, .int y1]) (h' := cw nR nN nT X ρ φ) rfl ?_
  refine qr_eq2 (tgt := 23) hC rfl (by decide) rfl (fun hc => ?_) (fun hc => ?_)
  · rw [if_pos hc] at hs
    exact pa_unary_L23_n F (d + 1) nR nN nT X ρ g hg (by omega) φ x1 y1 _ hs
  · rw [if_neg hc] at hs
    refine qr_s hC (n := 2) (pc' := 14) (ls' := [.ref 10, .int x1, .int y1]) (st' := [.int 45, .int y1]) (h' := cw nR nN nT X ρ φ) rfl ?_
    refine qr_eq2 (tgt := 23) hC rfl (by decide) rfl (fun hc => ?_) (fun hc => ?_)
    · rw [if_pos hc] at hs
      exact pa_unary_L23_n F (d + 1) nR nN nT X ρ g hg (by omega) φ x1 y1 _ hs
    · rw [if_neg hc] at hs
      refine qr_s hC (n := 2) (pc' := 19) (ls' := [.ref 10, .int x1, .int y1]) (st' := [.int x1, .ref 10]) (h' := cw nR nN nT X ρ φ) rfl ?_
      obtain ⟨y2, φ1, hy, hs⟩ := qb2_s hs
      refine qr_c (j := 192) (as := [.ref 10, .int x1]) (rest := []) (v := some (.int y2)) (h1 := cw nR nN nT X ρ φ1) hC rfl rfl qC_192 rfl rfl (hg 2 φ x1 0 _ hy) ?_
      show qm_Rn (d + 1) 191 22 [.ref 10, .int x1, .int y1] [.int y2] (cw nR nN nT X ρ φ1) _
      obtain ⟨hz, hs⟩ := qg_s hs
      have hs := Option.some.inj hs
      subst hs
      exact qr_rz hC rfl hz

/-- SketchFiller$Parser.part(I)Z -/
def pa_part (F : Nat) (nR nN nT : Nat) (g : Nat → qm_F → Int32 → Int32 → Option (Int32 × qm_F)) (φ : qm_F) (x1 : Int32) : Option (Int32 × qm_F) :=
  qb1 (pa_kind F nR nN nT φ) fun y1 =>
  if y1 = 40 then
    if x1 < 6 then
      qb2 (g 0 (qm_u φ 10 3 ((φ 10 3) + 1)) 0 (x1 + 1)) fun y2 φ1 =>
      if y2 = 0 then
        some (0, φ1)
      else
        qb2 (pa_take F nR nN nT φ1 41) fun y3 φ2 =>
        if y3 = 0 then
          some (0, φ2)
        else
          some (1, φ2)
    else
      qb2 (pa_fail F nR nN nT φ 5) fun y4 φ3 =>
      qg (qm_bz y4) (some (y4, φ3))
  else
  if y1 = 48 then
    qb1 (to_numberOf F nR nN φ (φ 10 3)) fun y5 =>
    qb2 (pr_emit F nR nN nT φ 1 y5 0) fun y6 φ4 =>
    some (1, (qm_u φ4 10 3 ((φ4 10 3) + 1)))
  else
  if y1 = 97 then
    qb2 (pa_nameUsed F nR nN nT φ) fun y7 φ5 =>
    qg (qm_bz y7) (some (y7, φ5))
  else
  qb2 (pa_fail F nR nN nT φ 1) fun y8 φ6 =>
  qg (qm_bz y8) (some (y8, φ6))
set_option maxRecDepth 100000 in
theorem pa_part_n (F d : Nat) (nR nN nT : Nat) (X : List (Nat × Nat)) (ρ : Nat → Nat → Option Nat) (g : Nat → qm_F → Int32 → Int32 → Option (Int32 × qm_F)) (hg : ∀ t φ a b r, g t φ a b = some r → cg_E_ok nR nN nT X ρ (d - 1) t φ a b r) (hd : 3 ≤ d) (φ : qm_F) (x1 : Int32) (r : (Int32 × qm_F)) (hs : pa_part F nR nN nT g φ x1 = some r) : qm_Rn d 192 0 [.ref 10, .int x1] [] (cw nR nN nT X ρ φ) (some (.int r.1), cw nR nN nT X ρ r.2) := by
  obtain ⟨d, rfl⟩ : ∃ e, d = e + 1 := ⟨d - 1, by omega⟩
  simp only [Nat.add_sub_cancel] at hg
  have hC := qC_192
  unfold pa_part at hs
  refine qr_s hC (n := 1) (pc' := 1) (ls' := [.ref 10, .int x1]) (st' := [.ref 10]) (h' := cw nR nN nT X ρ φ) rfl ?_
  obtain ⟨y1, hy, hs⟩ := qb1_s hs
  refine qr_c (j := 169) (as := [.ref 10]) (rest := []) (v := some (.int y1)) (h1 := cw nR nN nT X ρ φ) hC rfl rfl qC_169 rfl rfl (pa_kind_n F d nR nN nT X ρ φ _ (by omega) hy) ?_
  show qm_Rn (d + 1) 192 4 [.ref 10, .int x1] [.int y1] (cw nR nN nT X ρ φ) _
  by_cases q0 : y1 = 40
  · rw [if_pos q0] at hs
    refine qr_sw hC (tgt := 78) rfl q0 rfl ?_
    refine qr_s hC (n := 2) (pc' := 81) (ls' := [.ref 10, .int x1]) (st' := [.int 6, .int x1]) (h' := cw nR nN nT X ρ φ) rfl ?_
    refine qr_lt2 (tgt := 90) hC rfl (by decide) rfl (fun hc => ?_) (fun hc => ?_)
    · rw [if_pos hc] at hs
      refine qr_s hC (n := 11) (pc' := 105) (ls' := [.ref 10, .int x1]) (st' := [.int (x1 + 1), .int 0, .ref 10]) (h' := cw nR nN nT X ρ (qm_u φ 10 3 ((φ 10 3) + 1))) rfl ?_
      obtain ⟨y2, φ1, hy, hs⟩ := qb2_s hs
      refine qr_c (j := 189) (as := [.ref 10, .int 0, .int (x1 + 1)]) (rest := []) (v := some (.int y2)) (h1 := cw nR nN nT X ρ φ1) hC rfl rfl qC_189 rfl rfl (hg 0 (qm_u φ 10 3 ((φ 10 3) + 1)) 0 (x1 + 1) _ hy) ?_
      show qm_Rn (d + 1) 192 108 [.ref 10, .int x1] [.int y2] (cw nR nN nT X ρ φ1) _
      refine qr_eq1 (tgt := 124) hC rfl (by decide) rfl (fun hc => ?_) (fun hc => ?_)
      · rw [if_pos hc] at hs
        refine qr_s hC (n := 1) (pc' := 125) (ls' := [.ref 10, .int x1]) (st' := [.int 0]) (h' := cw nR nN nT X ρ φ1) rfl ?_
        have hs := Option.some.inj hs
        subst hs
        exact qr_r hC rfl rfl
      · rw [if_neg hc] at hs
        refine qr_s hC (n := 2) (pc' := 114) (ls' := [.ref 10, .int x1]) (st' := [.int 41, .ref 10]) (h' := cw nR nN nT X ρ φ1) rfl ?_
        obtain ⟨y3, φ2, hy, hs⟩ := qb2_s hs
        refine qr_c (j := 171) (as := [.ref 10, .int 41]) (rest := []) (v := some (.int y3)) (h1 := cw nR nN nT X ρ φ2) hC rfl rfl qC_171 rfl rfl (pa_take_n F d nR nN nT X ρ φ1 41 _ (by omega) hy) ?_
        show qm_Rn (d + 1) 192 117 [.ref 10, .int x1] [.int y3] (cw nR nN nT X ρ φ2) _
        refine qr_eq1 (tgt := 124) hC rfl (by decide) rfl (fun hc => ?_) (fun hc => ?_)
        · rw [if_pos hc] at hs
          refine qr_s hC (n := 1) (pc' := 125) (ls' := [.ref 10, .int x1]) (st' := [.int 0]) (h' := cw nR nN nT X ρ φ2) rfl ?_
          have hs := Option.some.inj hs
          subst hs
          exact qr_r hC rfl rfl
        · rw [if_neg hc] at hs
          refine qr_s hC (n := 2) (pc' := 125) (ls' := [.ref 10, .int x1]) (st' := [.int 1]) (h' := cw nR nN nT X ρ φ2) rfl ?_
          have hs := Option.some.inj hs
          subst hs
          exact qr_r hC rfl rfl
    · rw [if_neg hc] at hs
      refine qr_s hC (n := 2) (pc' := 86) (ls' := [.ref 10, .int x1]) (st' := [.int 5, .ref 10]) (h' := cw nR nN nT X ρ φ) rfl ?_
      obtain ⟨y4, φ3, hy, hs⟩ := qb2_s hs
      refine qr_c (j := 170) (as := [.ref 10, .int 5]) (rest := []) (v := some (.int y4)) (h1 := cw nR nN nT X ρ φ3) hC rfl rfl qC_170 rfl rfl (pa_fail_n F d nR nN nT X ρ φ 5 _ (by omega) hy) ?_
      show qm_Rn (d + 1) 192 89 [.ref 10, .int x1] [.int y4] (cw nR nN nT X ρ φ3) _
      obtain ⟨hz, hs⟩ := qg_s hs
      have hs := Option.some.inj hs
      subst hs
      exact qr_rz hC rfl hz
  · rw [if_neg q0] at hs
    by_cases q1 : y1 = 48
    · rw [if_pos q1] at hs
      refine qr_sw hC (tgt := 40) rfl q1 rfl ?_
      refine qr_s hC (n := 7) (pc' := 53) (ls' := [.ref 10, .int x1]) (st' := [.int (φ 10 3), .ref 4, .int 1, .ref 14]) (h' := cw nR nN nT X ρ φ) rfl ?_
      obtain ⟨y5, hy, hs⟩ := qb1_s hs
      refine qr_c (j := 267) (as := [.ref 4, .int (φ 10 3)]) (rest := [.int 1, .ref 14]) (v := some (.int y5)) (h1 := cw nR nN nT X ρ φ) hC rfl rfl qC_267 rfl rfl (to_numberOf_n F d nR nN (cw_X nT X) (cw_R ρ) φ (φ 10 3) _ (by omega) hy) ?_
      show qm_Rn (d + 1) 192 56 [.ref 10, .int x1] [.int y5, .int 1, .ref 14] (cw nR nN nT X ρ φ) _
      refine qr_s hC (n := 1) (pc' := 57) (ls' := [.ref 10, .int x1]) (st' := [.int 0, .int y5, .int 1, .ref 14]) (h' := cw nR nN nT X ρ φ) rfl ?_
      obtain ⟨y6, φ4, hy, hs⟩ := qb2_s hs
      refine qr_c (j := 197) (as := [.ref 14, .int 1, .int y5, .int 0]) (rest := []) (v := some (.int y6)) (h1 := cw nR nN nT X ρ φ4) hC rfl rfl qC_197 rfl rfl (pr_emit_n F d nR nN nT X ρ φ 1 y5 0 _ (by omega) hy) ?_
      show qm_Rn (d + 1) 192 60 [.ref 10, .int x1] [.int y6] (cw nR nN nT X ρ φ4) _
      refine qr_s hC (n := 8) (pc' := 72) (ls' := [.ref 10, .int x1]) (st' := [.int 1]) (h' := cw nR nN nT X ρ (qm_u φ4 10 3 ((φ4 10 3) + 1))) rfl ?_
      have hs := Option.some.inj hs
      subst hs
      exact qr_r hC rfl rfl
    · rw [if_neg q1] at hs
      by_cases q2 : y1 = 97
      · rw [if_pos q2] at hs
        refine qr_sw hC (tgt := 73) rfl q2 rfl ?_
        refine qr_s hC (n := 1) (pc' := 74) (ls' := [.ref 10, .int x1]) (st' := [.ref 10]) (h' := cw nR nN nT X ρ φ) rfl ?_
        obtain ⟨y7, φ5, hy, hs⟩ := qb2_s hs
        refine qr_c (j := 193) (as := [.ref 10]) (rest := []) (v := some (.int y7)) (h1 := cw nR nN nT X ρ φ5) hC rfl rfl qC_193 rfl rfl (pa_nameUsed_n F d nR nN nT X ρ φ _ (by omega) hy) ?_
        show qm_Rn (d + 1) 192 77 [.ref 10, .int x1] [.int y7] (cw nR nN nT X ρ φ5) _
        obtain ⟨hz, hs⟩ := qg_s hs
        have hs := Option.some.inj hs
        subst hs
        exact qr_rz hC rfl hz
      · rw [if_neg q2] at hs
        have z0 : Int32.toInt y1 ≠ 40 := fun z => q0 (Int32.toInt_inj.mp (z.trans (by decide)))
        have z1 : Int32.toInt y1 ≠ 48 := fun z => q1 (Int32.toInt_inj.mp (z.trans (by decide)))
        have z2 : Int32.toInt y1 ≠ 97 := fun z => q2 (Int32.toInt_inj.mp (z.trans (by decide)))
        refine qr_lD (off := 122) (tgt := 126) hC rfl (by decide) ?_ (by decide) rfl ?_
        · simp only [Op.lookupswitch.offset]
          rw [if_neg (Ne.symm z0)]
          rw [if_neg (Ne.symm z1)]
          rw [if_neg (Ne.symm z2)]
        refine qr_s hC (n := 2) (pc' := 128) (ls' := [.ref 10, .int x1]) (st' := [.int 1, .ref 10]) (h' := cw nR nN nT X ρ φ) rfl ?_
        obtain ⟨y8, φ6, hy, hs⟩ := qb2_s hs
        refine qr_c (j := 170) (as := [.ref 10, .int 1]) (rest := []) (v := some (.int y8)) (h1 := cw nR nN nT X ρ φ6) hC rfl rfl qC_170 rfl rfl (pa_fail_n F d nR nN nT X ρ φ 1 _ (by omega) hy) ?_
        show qm_Rn (d + 1) 192 131 [.ref 10, .int x1] [.int y8] (cw nR nN nT X ρ φ6) _
        obtain ⟨hz, hs⟩ := qg_s hs
        have hs := Option.some.inj hs
        subst hs
        exact qr_rz hC rfl hz

def cg_E (F : Nat) (nR nN nT : Nat) : Nat → Nat → qm_F → Int32 → Int32 → Option (Int32 × qm_F)
  | 0, _, _, _, _ => none
  | m + 1, t, φ, a, b =>
    if t = 0 then pa_expression F nR nN nT (cg_E F nR nN nT m) φ a b else
    if t = 1 then pa_unary F nR nN nT (cg_E F nR nN nT m) φ a else
    pa_part F nR nN nT (cg_E F nR nN nT m) φ a

theorem cg_E_n (F : Nat) (nR nN nT : Nat) (X : List (Nat × Nat)) (ρ : Nat → Nat → Option Nat) : ∀ (m t : Nat) (φ : qm_F) (a b : Int32) (r : Int32 × qm_F) (d : Nat), 3 + m ≤ d → cg_E F nR nN nT m t φ a b = some r → cg_E_ok nR nN nT X ρ d t φ a b r := by
  intro m
  induction m with
  | zero => intro t φ a b r d hd hs; simp [cg_E] at hs
  | succ m ih =>
    intro t φ a b r d hd hs
    rw [cg_E] at hs
    have hg : ∀ t φ a b r, cg_E F nR nN nT m t φ a b = some r → cg_E_ok nR nN nT X ρ (d - 1) t φ a b r := fun t φ a b r q => ih t φ a b r (d - 1) (by omega) q
    unfold cg_E_ok
    by_cases h0 : t = 0
    · rw [if_pos h0] at hs ⊢
      exact pa_expression_n F d nR nN nT X ρ (cg_E F nR nN nT m) hg (by omega) φ a b r hs
    rw [if_neg h0] at hs ⊢
    by_cases h1 : t = 1
    · rw [if_pos h1] at hs ⊢
      exact pa_unary_n F d nR nN nT X ρ (cg_E F nR nN nT m) hg (by omega) φ a r hs
    rw [if_neg h1] at hs ⊢
    exact pa_part_n F d nR nN nT X ρ (cg_E F nR nN nT m) hg (by omega) φ a r hs
