/-! THE COMPONENT as plain functions (by program: wip/whole/gen_comp.py). Cells: 0 SketchFiller 1 Tape 2 its bytes 3 the row 4 Tokens 5..9 its arrays 10 Parser 11 Names 12 13 its arrays 14 Program 15..22 its arrays; then 23 costs 24 ranking 25 Verdicts 26 Machine 27..29 its arrays 30 Search 31..33 its arrays -/
section QY
variable {d k nL rt pc : Nat} {cd : List (Option qm_e)} {ls st : List Value} {h : qm_H} {r : Option Value × qm_H}
theorem qr_al {a n t : Nat} (hC : qm_C k nL rt cd) (hc : cd[pc]? = some (some (.arraylength, 1, 0, 0, 0))) (hk : h.1[a]? = some (t + 1, n)) (hg : decide (n < 2147483648) = true) (kk : qm_Rn d k (pc + 1) ls (.int (Int32.ofNat n) :: st) h r) : qm_Rn d k pc ls (.ref a :: st) h r := by
  refine qr_x hC hc ?_ kk
  simp only [qm_x, hk, if_pos (of_decide_eq_true hg), qm_nx]
end QY
def c4_T : List (List Nat) := [[2], [3]]
def c4_R (ρ : Nat → Nat → Option Nat) (a i : Nat) : Option Nat := match (c4_T.getD a []).getD i 0 with
  | 0 => ρ a i
  | m + 1 => some m
def ct_T : List (List Nat) := [[], [], [], [], [6, 7, 8, 9, 10]]
def ct_R (ρ : Nat → Nat → Option Nat) (a i : Nat) : Option Nat := match (ct_T.getD a []).getD i 0 with
  | 0 => ρ a i
  | m + 1 => some m
def cw_T : List (List Nat) := [[], [], [], [], [], [], [], [], [], [], [5, 15, 12], [13, 14], [], [], [0, 0, 0, 0, 0, 0, 0, 16, 17, 18, 21, 22, 23, 0, 0, 0, 5]]
def cw_R (ρ : Nat → Nat → Option Nat) (a i : Nat) : Option Nat := match (cw_T.getD a []).getD i 0 with
  | 0 => ρ a i
  | m + 1 => some m
def cr_T : List (List Nat) := [[], [], [], [], [], [], [], [], [], [], [], [], [], [], [0, 0, 0, 0, 0, 0, 0, 0, 0, 0, 0, 0, 0, 0, 24, 25]]
def cr_R (ρ : Nat → Nat → Option Nat) (a i : Nat) : Option Nat := match (cr_T.getD a []).getD i 0 with
  | 0 => ρ a i
  | m + 1 => some m
def cs_T : List (List Nat) := [[0, 4, 31], [], [], [], [], [], [], [], [], [], [], [], [], [], [], [], [], [], [], [], [], [], [], [], [], [27, 0, 4], [15, 0, 28, 29, 30], [], [], [], [15, 26, 32, 33, 34]]
def cs_R (ρ : Nat → Nat → Option Nat) (a i : Nat) : Option Nat := match (cs_T.getD a []).getD i 0 with
  | 0 => ρ a i
  | m + 1 => some m
def c4 (nR : Nat) (X : List (Nat × Nat)) (ρ : Nat → Nat → Option Nat) (φ : qm_F) : qm_H := ((0, 8) :: (0, 5) :: (1, 800) :: (2, nR) :: X, φ, c4_R ρ)
def ct_X (nN : Nat) (X : List (Nat × Nat)) : List (Nat × Nat) := (0, 6) :: (1, nN) :: (1, nN + 1) :: (1, nN + 1) :: (1, nN + 1) :: (1, nN + 1) :: X
def ct (nR nN : Nat) (X : List (Nat × Nat)) (ρ : Nat → Nat → Option Nat) (φ : qm_F) : qm_H := c4 nR (ct_X nN X) (ct_R ρ) φ
def cw_X (nT : Nat) (X : List (Nat × Nat)) : List (Nat × Nat) := (0, 2) :: (0, 1) :: (1, 15) :: (1, 15) :: (0, 3) :: (1, 3) :: (1, 5) :: (1, 5) :: (1, 0) :: (1, 0) :: (1, nT) :: (1, nT) :: (1, nT) :: X
def cw (nR nN nT : Nat) (X : List (Nat × Nat)) (ρ : Nat → Nat → Option Nat) (φ : qm_F) : qm_H := ct nR nN (cw_X nT X) (cw_R ρ) φ
def cr_X (gg : Nat) (X : List (Nat × Nat)) : List (Nat × Nat) := (1, gg) :: (1, gg) :: X
def cr (nR nN nT gg : Nat) (X : List (Nat × Nat)) (ρ : Nat → Nat → Option Nat) (φ : qm_F) : qm_H := cw nR nN nT (cr_X gg X) (cr_R ρ) φ
def cs_X (gg : Nat) (X : List (Nat × Nat)) : List (Nat × Nat) := (0, 7) :: (0, 0) :: (1, 15) :: (1, 4) :: (1, 64) :: (0, 4) :: (1, 5) :: (1, 40) :: (3, gg) :: X
def cs (nR nN nT gg : Nat) (X : List (Nat × Nat)) (ρ : Nat → Nat → Option Nat) (φ : qm_F) : qm_H := cr nR nN nT gg (cs_X gg X) (cs_R ρ) φ
def c0_R (a i : Nat) : Option Nat := if a = 0 then (if i = 1 then some 3 else none) else none
def c0 (nR : Nat) (φ : qm_F) : qm_H := c4 nR [] c0_R φ
/-- SketchFiller$Tape.size()I -/
def ta_size (F : Nat) (nR : Nat) (φ : qm_F) : Option Int32 :=
  some (φ 1 1)
set_option maxRecDepth 100000 in
theorem ta_size_n (F d : Nat) (nR : Nat) (X : List (Nat × Nat)) (ρ : Nat → Nat → Option Nat) (φ : qm_F) (r : Int32) (hd : 0 ≤ d) (hs : ta_size F nR φ = some r) : qm_Rn d 251 0 [.ref 1] [] (c4 nR X ρ φ) (some (.int r), c4 nR X ρ φ) := by
  have hC := qC_251
  unfold ta_size at hs
  refine qr_s hC (n := 2) (pc' := 4) (ls' := [.ref 1]) (st' := [.int (φ 1 1)]) (h' := c4 nR X ρ φ) rfl ?_
  have hs := Option.some.inj hs
  subst hs
  exact qr_r hC rfl rfl
/-- SketchFiller$Tape.put(I)V -/
def ta_put_L3 (F : Nat) (nR : Nat) : Nat → qm_F → Int32 → Int32 → Option qm_F
  | 0, _, _, _ => none
  | n + 1, φ, x1, x2 =>
    if x2 < 0 then
      some φ
    else
      if 800 ≤ (φ 1 1) then
        ta_put_L3 F nR n φ x1 (x2 + (-8))
      else
        qg (qm_in (φ 1 1) 800) <|
        ta_put_L3 F nR n (qm_u (qm_u φ 2 ((φ 1 1).toNatClampNeg) (((Int32.toUInt32 x1 >>> (Int32.toUInt32 x2 &&& Int32.toUInt32 31)).toInt32) &&& 255)) 1 1 ((φ 1 1) + 1)) x1 (x2 + (-8))
def ta_put (F : Nat) (nR : Nat) (φ : qm_F) (x1 : Int32) : Option qm_F :=
  ta_put_L3 F nR F φ x1 24
set_option maxRecDepth 100000 in
theorem ta_put_L3_n (F d : Nat) (nR : Nat) (X : List (Nat × Nat)) (ρ : Nat → Nat → Option Nat) (hd : 0 ≤ d) : ∀ (n : Nat) (φ : qm_F) (x1 : Int32) (x2 : Int32) (r : qm_F), ta_put_L3 F nR n φ x1 x2 = some r → qm_Rn d 252 3 [.ref 1, .int x1, .int x2] [] (c4 nR X ρ φ) (none, c4 nR X ρ r) := by
  have hC := qC_252
  intro n
  induction n with
  | zero => intro φ x1 x2 r hs; simp [ta_put_L3] at hs
  | succ n ih =>
    intro φ x1 x2 r hs
    rw [ta_put_L3] at hs
    refine qr_s hC (n := 1) (pc' := 4) (ls' := [.ref 1, .int x1, .int x2]) (st' := [.int x2]) (h' := c4 nR X ρ φ) rfl ?_
    refine qr_lt1 (tgt := 51) hC rfl (by decide) rfl (fun hc => ?_) (fun hc => ?_)
    · rw [if_pos hc] at hs
      have hs := Option.some.inj hs
      subst hs
      exact qr_r hC rfl rfl
    · rw [if_neg hc] at hs
      refine qr_s hC (n := 5) (pc' := 16) (ls' := [.ref 1, .int x1, .int x2]) (st' := [.int 800, .int (φ 1 1)]) (h' := c4 nR X ρ φ) rfl ?_
      refine qr_ge2 (tgt := 45) hC rfl (by decide) rfl (fun hc => ?_) (fun hc => ?_)
      · rw [if_pos hc] at hs
        refine qr_s hC (n := 2) (pc' := 3) (ls' := [.ref 1, .int x1, .int (x2 + (-8))]) (st' := []) (h' := c4 nR X ρ φ) rfl ?_
        exact ih φ x1 (x2 + (-8)) _ hs
      · rw [if_neg hc] at hs
        refine qr_s hC (n := 9) (pc' := 34) (ls' := [.ref 1, .int x1, .int x2]) (st' := [.int (((Int32.toUInt32 x1 >>> (Int32.toUInt32 x2 &&& Int32.toUInt32 31)).toInt32) &&& 255), .int (φ 1 1), .ref 2]) (h' := c4 nR X ρ φ) rfl ?_
        obtain ⟨hq, hs⟩ := qg_s hs
        refine qr_is (h' := c4 nR X ρ (qm_u φ 2 ((φ 1 1).toNatClampNeg) (((Int32.toUInt32 x1 >>> (Int32.toUInt32 x2 &&& Int32.toUInt32 31)).toInt32) &&& 255))) hC rfl rfl hq rfl ?_
        refine qr_s hC (n := 8) (pc' := 3) (ls' := [.ref 1, .int x1, .int (x2 + (-8))]) (st' := []) (h' := c4 nR X ρ (qm_u (qm_u φ 2 ((φ 1 1).toNatClampNeg) (((Int32.toUInt32 x1 >>> (Int32.toUInt32 x2 &&& Int32.toUInt32 31)).toInt32) &&& 255)) 1 1 ((φ 1 1) + 1))) rfl ?_
        exact ih (qm_u (qm_u φ 2 ((φ 1 1).toNatClampNeg) (((Int32.toUInt32 x1 >>> (Int32.toUInt32 x2 &&& Int32.toUInt32 31)).toInt32) &&& 255)) 1 1 ((φ 1 1) + 1)) x1 (x2 + (-8)) _ hs
set_option maxRecDepth 100000 in
theorem ta_put_n (F d : Nat) (nR : Nat) (X : List (Nat × Nat)) (ρ : Nat → Nat → Option Nat) (φ : qm_F) (x1 : Int32) (r : qm_F) (hd : 0 ≤ d) (hs : ta_put F nR φ x1 = some r) : qm_Rn d 252 0 [.ref 1, .int x1, .retAddr 0] [] (c4 nR X ρ φ) (none, c4 nR X ρ r) := by
  have hC := qC_252
  unfold ta_put at hs
  refine qr_s hC (n := 2) (pc' := 3) (ls' := [.ref 1, .int x1, .int 24]) (st' := []) (h' := c4 nR X ρ φ) rfl ?_
  exact ta_put_L3_n F d nR X ρ (by omega) F φ x1 24 _ hs
/-- SketchFiller.feed(IIIII)I -/
def sf_feed (F : Nat) (nR : Nat) (φ : qm_F) (x1 : Int32) (x2 : Int32) (x3 : Int32) (x4 : Int32) (x5 : Int32) : Option (Int32 × qm_F) :=
  qb1 (ta_size F nR φ) fun y1 =>
  if (y1 + 20) ≤ 800 then
    qb1 (ta_put F nR φ x1) fun φ1 =>
    qb1 (ta_put F nR φ1 x2) fun φ2 =>
    qb1 (ta_put F nR φ2 x3) fun φ3 =>
    qb1 (ta_put F nR φ3 x4) fun φ4 =>
    qb1 (ta_put F nR φ4 x5) fun φ5 =>
    qb1 (ta_size F nR φ5) fun y2 =>
    some (y2, φ5)
  else
    some ((-1), φ)
set_option maxRecDepth 100000 in
theorem sf_feed_n (F d : Nat) (nR : Nat) (X : List (Nat × Nat)) (ρ : Nat → Nat → Option Nat) (φ : qm_F) (x1 : Int32) (x2 : Int32) (x3 : Int32) (x4 : Int32) (x5 : Int32) (r : (Int32 × qm_F)) (hd : 1 ≤ d) (hs : sf_feed F nR φ x1 x2 x3 x4 x5 = some r) : qm_Rn d 1 0 [.ref 0, .int x1, .int x2, .int x3, .int x4, .int x5] [] (c4 nR X ρ φ) (some (.int r.1), c4 nR X ρ r.2) := by
  obtain ⟨d, rfl⟩ : ∃ e, d = e + 1 := ⟨d - 1, by omega⟩
  have hC := qC_1
  unfold sf_feed at hs
  refine qr_s hC (n := 2) (pc' := 4) (ls' := [.ref 0, .int x1, .int x2, .int x3, .int x4, .int x5]) (st' := [.ref 1]) (h' := c4 nR X ρ φ) rfl ?_
  obtain ⟨y1, hy, hs⟩ := qb1_s hs
  refine qr_c (j := 251) (as := [.ref 1]) (rest := []) (v := some (.int y1)) (h1 := c4 nR X ρ φ) hC rfl rfl qC_251 rfl rfl (ta_size_n F d nR X ρ φ _ (by omega) hy) ?_
  show qm_Rn (d + 1) 1 7 [.ref 0, .int x1, .int x2, .int x3, .int x4, .int x5] [.int y1] (c4 nR X ρ φ) _
  refine qr_s hC (n := 3) (pc' := 13) (ls' := [.ref 0, .int x1, .int x2, .int x3, .int x4, .int x5]) (st' := [.int 800, .int (y1 + 20)]) (h' := c4 nR X ρ φ) rfl ?_
  refine qr_le2 (tgt := 18) hC rfl (by decide) rfl (fun hc => ?_) (fun hc => ?_)
  · rw [if_pos hc] at hs
    refine qr_s hC (n := 3) (pc' := 23) (ls' := [.ref 0, .int x1, .int x2, .int x3, .int x4, .int x5]) (st' := [.int x1, .ref 1]) (h' := c4 nR X ρ φ) rfl ?_
    obtain ⟨φ1, hy, hs⟩ := qb1_s hs
    refine qr_c (j := 252) (as := [.ref 1, .int x1]) (rest := []) (v := none) (h1 := c4 nR X ρ φ1) hC rfl rfl qC_252 rfl rfl (ta_put_n F d nR X ρ φ x1 _ (by omega) hy) ?_
    show qm_Rn (d + 1) 1 26 [.ref 0, .int x1, .int x2, .int x3, .int x4, .int x5] [] (c4 nR X ρ φ1) _
    refine qr_s hC (n := 3) (pc' := 31) (ls' := [.ref 0, .int x1, .int x2, .int x3, .int x4, .int x5]) (st' := [.int x2, .ref 1]) (h' := c4 nR X ρ φ1) rfl ?_
    obtain ⟨φ2, hy, hs⟩ := qb1_s hs
    refine qr_c (j := 252) (as := [.ref 1, .int x2]) (rest := []) (v := none) (h1 := c4 nR X ρ φ2) hC rfl rfl qC_252 rfl rfl (ta_put_n F d nR X ρ φ1 x2 _ (by omega) hy) ?_
    show qm_Rn (d + 1) 1 34 [.ref 0, .int x1, .int x2, .int x3, .int x4, .int x5] [] (c4 nR X ρ φ2) _
    refine qr_s hC (n := 3) (pc' := 39) (ls' := [.ref 0, .int x1, .int x2, .int x3, .int x4, .int x5]) (st' := [.int x3, .ref 1]) (h' := c4 nR X ρ φ2) rfl ?_
    obtain ⟨φ3, hy, hs⟩ := qb1_s hs
    refine qr_c (j := 252) (as := [.ref 1, .int x3]) (rest := []) (v := none) (h1 := c4 nR X ρ φ3) hC rfl rfl qC_252 rfl rfl (ta_put_n F d nR X ρ φ2 x3 _ (by omega) hy) ?_
    show qm_Rn (d + 1) 1 42 [.ref 0, .int x1, .int x2, .int x3, .int x4, .int x5] [] (c4 nR X ρ φ3) _
    refine qr_s hC (n := 3) (pc' := 48) (ls' := [.ref 0, .int x1, .int x2, .int x3, .int x4, .int x5]) (st' := [.int x4, .ref 1]) (h' := c4 nR X ρ φ3) rfl ?_
    obtain ⟨φ4, hy, hs⟩ := qb1_s hs
    refine qr_c (j := 252) (as := [.ref 1, .int x4]) (rest := []) (v := none) (h1 := c4 nR X ρ φ4) hC rfl rfl qC_252 rfl rfl (ta_put_n F d nR X ρ φ3 x4 _ (by omega) hy) ?_
    show qm_Rn (d + 1) 1 51 [.ref 0, .int x1, .int x2, .int x3, .int x4, .int x5] [] (c4 nR X ρ φ4) _
    refine qr_s hC (n := 3) (pc' := 57) (ls' := [.ref 0, .int x1, .int x2, .int x3, .int x4, .int x5]) (st' := [.int x5, .ref 1]) (h' := c4 nR X ρ φ4) rfl ?_
    obtain ⟨φ5, hy, hs⟩ := qb1_s hs
    refine qr_c (j := 252) (as := [.ref 1, .int x5]) (rest := []) (v := none) (h1 := c4 nR X ρ φ5) hC rfl rfl qC_252 rfl rfl (ta_put_n F d nR X ρ φ4 x5 _ (by omega) hy) ?_
    show qm_Rn (d + 1) 1 60 [.ref 0, .int x1, .int x2, .int x3, .int x4, .int x5] [] (c4 nR X ρ φ5) _
    refine qr_s hC (n := 2) (pc' := 64) (ls' := [.ref 0, .int x1, .int x2, .int x3, .int x4, .int x5]) (st' := [.ref 1]) (h' := c4 nR X ρ φ5) rfl ?_
    obtain ⟨y2, hy, hs⟩ := qb1_s hs
    refine qr_c (j := 251) (as := [.ref 1]) (rest := []) (v := some (.int y2)) (h1 := c4 nR X ρ φ5) hC rfl rfl qC_251 rfl rfl (ta_size_n F d nR X ρ φ5 _ (by omega) hy) ?_
    show qm_Rn (d + 1) 1 67 [.ref 0, .int x1, .int x2, .int x3, .int x4, .int x5] [.int y2] (c4 nR X ρ φ5) _
    have hs := Option.some.inj hs
    subst hs
    exact qr_r hC rfl rfl
  · rw [if_neg hc] at hs
    refine qr_s hC (n := 1) (pc' := 17) (ls' := [.ref 0, .int x1, .int x2, .int x3, .int x4, .int x5]) (st' := [.int (-1)]) (h' := c4 nR X ρ φ) rfl ?_
    have hs := Option.some.inj hs
    subst hs
    exact qr_r hC rfl rfl
/-- SketchFiller.has(I)I -/
def sf_has (F : Nat) (nR nN nT gg : Nat) (φ : qm_F) (x1 : Int32) : Option Int32 :=
  if x1 = 0 then
    some (φ 14 0)
  else
  if x1 = 1 then
    some (φ 14 1)
  else
  if x1 = 2 then
    some (φ 14 2)
  else
  if x1 = 3 then
    some (φ 14 3)
  else
  if x1 = 4 then
    some (φ 14 4)
  else
  if x1 = 5 then
    some (φ 14 5)
  else
  if x1 = 6 then
    some (φ 14 6)
  else
  some (-1)
set_option maxRecDepth 100000 in
theorem sf_has_n (F d : Nat) (nR nN nT gg : Nat) (X : List (Nat × Nat)) (ρ : Nat → Nat → Option Nat) (φ : qm_F) (x1 : Int32) (r : Int32) (hd : 0 ≤ d) (hs : sf_has F nR nN nT gg φ x1 = some r) : qm_Rn d 3 0 [.ref 0, .int x1, .retAddr 0] [] (cs nR nN nT gg X ρ φ) (some (.int r), cs nR nN nT gg X ρ φ) := by
  have hC := qC_3
  unfold sf_has at hs
  refine qr_s hC (n := 8) (pc' := 18) (ls' := [.ref 0, .int x1, .ref 14]) (st' := [.int x1]) (h' := cs nR nN nT gg X ρ φ) rfl ?_
  by_cases q0 : x1 = 0
  · rw [if_pos q0] at hs
    refine qr_sw hC (tgt := 60) rfl q0 rfl ?_
    refine qr_s hC (n := 2) (pc' := 64) (ls' := [.ref 0, .int x1, .ref 14]) (st' := [.int (φ 14 0)]) (h' := cs nR nN nT gg X ρ φ) rfl ?_
    have hs := Option.some.inj hs
    subst hs
    exact qr_r hC rfl rfl
  · rw [if_neg q0] at hs
    by_cases q1 : x1 = 1
    · rw [if_pos q1] at hs
      refine qr_sw hC (tgt := 65) rfl q1 rfl ?_
      refine qr_s hC (n := 2) (pc' := 69) (ls' := [.ref 0, .int x1, .ref 14]) (st' := [.int (φ 14 1)]) (h' := cs nR nN nT gg X ρ φ) rfl ?_
      have hs := Option.some.inj hs
      subst hs
      exact qr_r hC rfl rfl
    · rw [if_neg q1] at hs
      by_cases q2 : x1 = 2
      · rw [if_pos q2] at hs
        refine qr_sw hC (tgt := 70) rfl q2 rfl ?_
        refine qr_s hC (n := 2) (pc' := 74) (ls' := [.ref 0, .int x1, .ref 14]) (st' := [.int (φ 14 2)]) (h' := cs nR nN nT gg X ρ φ) rfl ?_
        have hs := Option.some.inj hs
        subst hs
        exact qr_r hC rfl rfl
      · rw [if_neg q2] at hs
        by_cases q3 : x1 = 3
        · rw [if_pos q3] at hs
          refine qr_sw hC (tgt := 75) rfl q3 rfl ?_
          refine qr_s hC (n := 2) (pc' := 79) (ls' := [.ref 0, .int x1, .ref 14]) (st' := [.int (φ 14 3)]) (h' := cs nR nN nT gg X ρ φ) rfl ?_
          have hs := Option.some.inj hs
          subst hs
          exact qr_r hC rfl rfl
        · rw [if_neg q3] at hs
          by_cases q4 : x1 = 4
          · rw [if_pos q4] at hs
            refine qr_sw hC (tgt := 80) rfl q4 rfl ?_
            refine qr_s hC (n := 2) (pc' := 84) (ls' := [.ref 0, .int x1, .ref 14]) (st' := [.int (φ 14 4)]) (h' := cs nR nN nT gg X ρ φ) rfl ?_
            have hs := Option.some.inj hs
            subst hs
            exact qr_r hC rfl rfl
          · rw [if_neg q4] at hs
            by_cases q5 : x1 = 5
            · rw [if_pos q5] at hs
              refine qr_sw hC (tgt := 85) rfl q5 rfl ?_
              refine qr_s hC (n := 2) (pc' := 89) (ls' := [.ref 0, .int x1, .ref 14]) (st' := [.int (φ 14 5)]) (h' := cs nR nN nT gg X ρ φ) rfl ?_
              have hs := Option.some.inj hs
              subst hs
              exact qr_r hC rfl rfl
            · rw [if_neg q5] at hs
              by_cases q6 : x1 = 6
              · rw [if_pos q6] at hs
                refine qr_sw hC (tgt := 90) rfl q6 rfl ?_
                refine qr_s hC (n := 2) (pc' := 94) (ls' := [.ref 0, .int x1, .ref 14]) (st' := [.int (φ 14 6)]) (h' := cs nR nN nT gg X ρ φ) rfl ?_
                have hs := Option.some.inj hs
                subst hs
                exact qr_r hC rfl rfl
              · rw [if_neg q6] at hs
                have z0 : Int32.toInt x1 ≠ 0 := fun z => q0 (Int32.toInt_inj.mp (z.trans (by decide)))
                have z1 : Int32.toInt x1 ≠ 1 := fun z => q1 (Int32.toInt_inj.mp (z.trans (by decide)))
                have z2 : Int32.toInt x1 ≠ 2 := fun z => q2 (Int32.toInt_inj.mp (z.trans (by decide)))
                have z3 : Int32.toInt x1 ≠ 3 := fun z => q3 (Int32.toInt_inj.mp (z.trans (by decide)))
                have z4 : Int32.toInt x1 ≠ 4 := fun z => q4 (Int32.toInt_inj.mp (z.trans (by decide)))
                have z5 : Int32.toInt x1 ≠ 5 := fun z => q5 (Int32.toInt_inj.mp (z.trans (by decide)))
                have z6 : Int32.toInt x1 ≠ 6 := fun z => q6 (Int32.toInt_inj.mp (z.trans (by decide)))
                refine qr_tD (tgt := 95) hC rfl (by omega) (by decide) rfl ?_
                refine qr_s hC (n := 1) (pc' := 96) (ls' := [.ref 0, .int x1, .ref 14]) (st' := [.int (-1)]) (h' := cs nR nN nT gg X ρ φ) rfl ?_
                have hs := Option.some.inj hs
                subst hs
                exact qr_r hC rfl rfl
/-- SketchFiller$Program.hasHole(I)Z -/
def pr_hasHole (F : Nat) (nR nN nT : Nat) (φ : qm_F) (x1 : Int32) : Option Int32 :=
  if x1 < 0 then
    some 0
  else
    if (φ 14 2) ≤ x1 then
      some 0
    else
      if 5 ≤ x1 then
        some 0
      else
        some 1
set_option maxRecDepth 100000 in
theorem pr_hasHole_n (F d : Nat) (nR nN nT : Nat) (X : List (Nat × Nat)) (ρ : Nat → Nat → Option Nat) (φ : qm_F) (x1 : Int32) (r : Int32) (hd : 0 ≤ d) (hs : pr_hasHole F nR nN nT φ x1 = some r) : qm_Rn d 203 0 [.ref 14, .int x1] [] (cw nR nN nT X ρ φ) (some (.int r), cw nR nN nT X ρ φ) := by
  have hC := qC_203
  unfold pr_hasHole at hs
  refine qr_s hC (n := 1) (pc' := 1) (ls' := [.ref 14, .int x1]) (st' := [.int x1]) (h' := cw nR nN nT X ρ φ) rfl ?_
  refine qr_lt1 (tgt := 25) hC rfl (by decide) rfl (fun hc => ?_) (fun hc => ?_)
  · rw [if_pos hc] at hs
    refine qr_s hC (n := 1) (pc' := 26) (ls' := [.ref 14, .int x1]) (st' := [.int 0]) (h' := cw nR nN nT X ρ φ) rfl ?_
    have hs := Option.some.inj hs
    subst hs
    exact qr_r hC rfl rfl
  · rw [if_neg hc] at hs
    refine qr_s hC (n := 3) (pc' := 9) (ls' := [.ref 14, .int x1]) (st' := [.int (φ 14 2), .int x1]) (h' := cw nR nN nT X ρ φ) rfl ?_
    refine qr_ge2 (tgt := 25) hC rfl (by decide) rfl (fun hc => ?_) (fun hc => ?_)
    · rw [if_pos hc] at hs
      refine qr_s hC (n := 1) (pc' := 26) (ls' := [.ref 14, .int x1]) (st' := [.int 0]) (h' := cw nR nN nT X ρ φ) rfl ?_
      have hs := Option.some.inj hs
      subst hs
      exact qr_r hC rfl rfl
    · rw [if_neg hc] at hs
      refine qr_s hC (n := 4) (pc' := 18) (ls' := [.ref 14, .int x1]) (st' := [.int 5, .int x1]) (h' := cw nR nN nT X ρ φ) rfl ?_
      refine qr_ge2 (tgt := 25) hC rfl (by decide) rfl (fun hc => ?_) (fun hc => ?_)
      · rw [if_pos hc] at hs
        refine qr_s hC (n := 1) (pc' := 26) (ls' := [.ref 14, .int x1]) (st' := [.int 0]) (h' := cw nR nN nT X ρ φ) rfl ?_
        have hs := Option.some.inj hs
        subst hs
        exact qr_r hC rfl rfl
      · rw [if_neg hc] at hs
        refine qr_s hC (n := 2) (pc' := 26) (ls' := [.ref 14, .int x1]) (st' := [.int 1]) (h' := cw nR nN nT X ρ φ) rfl ?_
        have hs := Option.some.inj hs
        subst hs
        exact qr_r hC rfl rfl
/-- SketchFiller$Search.pinOf(I)I -/
def se_pinOf (F : Nat) (nR nN nT gg : Nat) (φ : qm_F) (x1 : Int32) : Option Int32 :=
  if x1 < 0 then
    some (-1)
  else
    if 5 ≤ x1 then
      some (-1)
    else
      qg (qm_in x1 5) <|
      some (φ 31 x1.toNatClampNeg)
set_option maxRecDepth 100000 in
theorem se_pinOf_n (F d : Nat) (nR nN nT gg : Nat) (X : List (Nat × Nat)) (ρ : Nat → Nat → Option Nat) (φ : qm_F) (x1 : Int32) (r : Int32) (hd : 0 ≤ d) (hs : se_pinOf F nR nN nT gg φ x1 = some r) : qm_Rn d 226 0 [.ref 30, .int x1] [] (cs nR nN nT gg X ρ φ) (some (.int r), cs nR nN nT gg X ρ φ) := by
  have hC := qC_226
  unfold se_pinOf at hs
  refine qr_s hC (n := 1) (pc' := 1) (ls' := [.ref 30, .int x1]) (st' := [.int x1]) (h' := cs nR nN nT gg X ρ φ) rfl ?_
  refine qr_lt1 (tgt := 22) hC rfl (by decide) rfl (fun hc => ?_) (fun hc => ?_)
  · rw [if_pos hc] at hs
    refine qr_s hC (n := 1) (pc' := 23) (ls' := [.ref 30, .int x1]) (st' := [.int (-1)]) (h' := cs nR nN nT gg X ρ φ) rfl ?_
    have hs := Option.some.inj hs
    subst hs
    exact qr_r hC rfl rfl
  · rw [if_neg hc] at hs
    refine qr_s hC (n := 4) (pc' := 10) (ls' := [.ref 30, .int x1]) (st' := [.int 5, .int x1]) (h' := cs nR nN nT gg X ρ φ) rfl ?_
    refine qr_ge2 (tgt := 22) hC rfl (by decide) rfl (fun hc => ?_) (fun hc => ?_)
    · rw [if_pos hc] at hs
      refine qr_s hC (n := 1) (pc' := 23) (ls' := [.ref 30, .int x1]) (st' := [.int (-1)]) (h' := cs nR nN nT gg X ρ φ) rfl ?_
      have hs := Option.some.inj hs
      subst hs
      exact qr_r hC rfl rfl
    · rw [if_neg hc] at hs
      refine qr_s hC (n := 3) (pc' := 18) (ls' := [.ref 30, .int x1]) (st' := [.int x1, .ref 31]) (h' := cs nR nN nT gg X ρ φ) rfl ?_
      obtain ⟨hq, hs⟩ := qg_s hs
      refine qr_ia (v := φ 31 x1.toNatClampNeg) hC rfl rfl hq rfl ?_
      refine qr_s hC (n := 1) (pc' := 23) (ls' := [.ref 30, .int x1]) (st' := [.int (φ 31 x1.toNatClampNeg)]) (h' := cs nR nN nT gg X ρ φ) rfl ?_
      have hs := Option.some.inj hs
      subst hs
      exact qr_r hC rfl rfl
/-- SketchFiller.hole(II)I -/
def sf_hole (F : Nat) (nR nN nT gg : Nat) (φ : qm_F) (x1 : Int32) (x2 : Int32) : Option Int32 :=
  qb1 (pr_hasHole F nR nN nT φ x1) fun y1 =>
  if ¬ y1 = 0 then
    if x2 = 0 then
      qg (qm_in x1 5) <|
      some (φ 16 x1.toNatClampNeg)
    else
    if x2 = 1 then
      qg (qm_in x1 5) <|
      some (φ 17 x1.toNatClampNeg)
    else
    if x2 = 2 then
      qb1 (se_pinOf F nR nN nT gg φ x1) fun y2 =>
      some y2
    else
    some (-1)
  else
    some (-1)
set_option maxRecDepth 100000 in
theorem sf_hole_n (F d : Nat) (nR nN nT gg : Nat) (X : List (Nat × Nat)) (ρ : Nat → Nat → Option Nat) (φ : qm_F) (x1 : Int32) (x2 : Int32) (r : Int32) (hd : 1 ≤ d) (hs : sf_hole F nR nN nT gg φ x1 x2 = some r) : qm_Rn d 4 0 [.ref 0, .int x1, .int x2] [] (cs nR nN nT gg X ρ φ) (some (.int r), cs nR nN nT gg X ρ φ) := by
  obtain ⟨d, rfl⟩ : ∃ e, d = e + 1 := ⟨d - 1, by omega⟩
  have hC := qC_4
  unfold sf_hole at hs
  refine qr_s hC (n := 7) (pc' := 15) (ls' := [.ref 0, .int x1, .int x2]) (st' := [.int x1, .ref 14]) (h' := cs nR nN nT gg X ρ φ) rfl ?_
  obtain ⟨y1, hy, hs⟩ := qb1_s hs
  refine qr_c (j := 203) (as := [.ref 14, .int x1]) (rest := []) (v := some (.int y1)) (h1 := cs nR nN nT gg X ρ φ) hC rfl rfl qC_203 rfl rfl (pr_hasHole_n F d nR nN nT (cr_X gg (cs_X gg X)) (cr_R (cs_R ρ)) φ x1 _ (by omega) hy) ?_
  show qm_Rn (d + 1) 4 18 [.ref 0, .int x1, .int x2] [.int y1] (cs nR nN nT gg X ρ φ) _
  refine qr_ne1 (tgt := 23) hC rfl (by decide) rfl (fun hc => ?_) (fun hc => ?_)
  · rw [if_pos hc] at hs
    refine qr_s hC (n := 1) (pc' := 24) (ls' := [.ref 0, .int x1, .int x2]) (st' := [.int x2]) (h' := cs nR nN nT gg X ρ φ) rfl ?_
    by_cases q0 : x2 = 0
    · rw [if_pos q0] at hs
      refine qr_sw hC (tgt := 52) rfl q0 rfl ?_
      refine qr_s hC (n := 5) (pc' := 63) (ls' := [.ref 0, .int x1, .int x2]) (st' := [.int x1, .ref 16]) (h' := cs nR nN nT gg X ρ φ) rfl ?_
      obtain ⟨hq, hs⟩ := qg_s hs
      refine qr_ia (v := φ 16 x1.toNatClampNeg) hC rfl rfl hq rfl ?_
      have hs := Option.some.inj hs
      subst hs
      exact qr_r hC rfl rfl
    · rw [if_neg q0] at hs
      by_cases q1 : x2 = 1
      · rw [if_pos q1] at hs
        refine qr_sw hC (tgt := 65) rfl q1 rfl ?_
        refine qr_s hC (n := 5) (pc' := 76) (ls' := [.ref 0, .int x1, .int x2]) (st' := [.int x1, .ref 17]) (h' := cs nR nN nT gg X ρ φ) rfl ?_
        obtain ⟨hq, hs⟩ := qg_s hs
        refine qr_ia (v := φ 17 x1.toNatClampNeg) hC rfl rfl hq rfl ?_
        have hs := Option.some.inj hs
        subst hs
        exact qr_r hC rfl rfl
      · rw [if_neg q1] at hs
        by_cases q2 : x2 = 2
        · rw [if_pos q2] at hs
          refine qr_sw hC (tgt := 78) rfl q2 rfl ?_
          refine qr_s hC (n := 3) (pc' := 83) (ls' := [.ref 0, .int x1, .int x2]) (st' := [.int x1, .ref 30]) (h' := cs nR nN nT gg X ρ φ) rfl ?_
          obtain ⟨y2, hy, hs⟩ := qb1_s hs
          refine qr_c (j := 226) (as := [.ref 30, .int x1]) (rest := []) (v := some (.int y2)) (h1 := cs nR nN nT gg X ρ φ) hC rfl rfl qC_226 rfl rfl (se_pinOf_n F d nR nN nT gg X ρ φ x1 _ (by omega) hy) ?_
          show qm_Rn (d + 1) 4 86 [.ref 0, .int x1, .int x2] [.int y2] (cs nR nN nT gg X ρ φ) _
          have hs := Option.some.inj hs
          subst hs
          exact qr_r hC rfl rfl
        · rw [if_neg q2] at hs
          have z0 : Int32.toInt x2 ≠ 0 := fun z => q0 (Int32.toInt_inj.mp (z.trans (by decide)))
          have z1 : Int32.toInt x2 ≠ 1 := fun z => q1 (Int32.toInt_inj.mp (z.trans (by decide)))
          have z2 : Int32.toInt x2 ≠ 2 := fun z => q2 (Int32.toInt_inj.mp (z.trans (by decide)))
          refine qr_tD (tgt := 87) hC rfl (by omega) (by decide) rfl ?_
          refine qr_s hC (n := 1) (pc' := 88) (ls' := [.ref 0, .int x1, .int x2]) (st' := [.int (-1)]) (h' := cs nR nN nT gg X ρ φ) rfl ?_
          have hs := Option.some.inj hs
          subst hs
          exact qr_r hC rfl rfl
  · rw [if_neg hc] at hs
    refine qr_s hC (n := 1) (pc' := 22) (ls' := [.ref 0, .int x1, .int x2]) (st' := [.int (-1)]) (h' := cs nR nN nT gg X ρ φ) rfl ?_
    have hs := Option.some.inj hs
    subst hs
    exact qr_r hC rfl rfl
/-- SketchFiller$Program.guesses()I -/
def pr_guesses (F : Nat) (nR nN nT : Nat) (φ : qm_F) : Option Int32 :=
  some ((1 : Int32) <<< ((φ 14 6) &&& 31))
set_option maxRecDepth 100000 in
theorem pr_guesses_n (F d : Nat) (nR nN nT : Nat) (X : List (Nat × Nat)) (ρ : Nat → Nat → Option Nat) (φ : qm_F) (r : Int32) (hd : 0 ≤ d) (hs : pr_guesses F nR nN nT φ = some r) : qm_Rn d 201 0 [.ref 14] [] (cw nR nN nT X ρ φ) (some (.int r), cw nR nN nT X ρ φ) := by
  have hC := qC_201
  unfold pr_guesses at hs
  refine qr_s hC (n := 4) (pc' := 6) (ls' := [.ref 14]) (st' := [.int ((1 : Int32) <<< ((φ 14 6) &&& 31))]) (h' := cw nR nN nT X ρ φ) rfl ?_
  have hs := Option.some.inj hs
  subst hs
  exact qr_r hC rfl rfl
/-- SketchFiller$Program.hasGuess(I)Z -/
def pr_hasGuess (F : Nat) (nR nN nT : Nat) (φ : qm_F) (x1 : Int32) : Option Int32 :=
  if x1 < 0 then
    some 0
  else
    qb1 (pr_guesses F nR nN nT φ) fun y1 =>
    if y1 ≤ x1 then
      some 0
    else
      some 1
set_option maxRecDepth 100000 in
theorem pr_hasGuess_n (F d : Nat) (nR nN nT : Nat) (X : List (Nat × Nat)) (ρ : Nat → Nat → Option Nat) (φ : qm_F) (x1 : Int32) (r : Int32) (hd : 1 ≤ d) (hs : pr_hasGuess F nR nN nT φ x1 = some r) : qm_Rn d 204 0 [.ref 14, .int x1] [] (cw nR nN nT X ρ φ) (some (.int r), cw nR nN nT X ρ φ) := by
  obtain ⟨d, rfl⟩ : ∃ e, d = e + 1 := ⟨d - 1, by omega⟩
  have hC := qC_204
  unfold pr_hasGuess at hs
  refine qr_s hC (n := 1) (pc' := 1) (ls' := [.ref 14, .int x1]) (st' := [.int x1]) (h' := cw nR nN nT X ρ φ) rfl ?_
  refine qr_lt1 (tgt := 16) hC rfl (by decide) rfl (fun hc => ?_) (fun hc => ?_)
  · rw [if_pos hc] at hs
    refine qr_s hC (n := 1) (pc' := 17) (ls' := [.ref 14, .int x1]) (st' := [.int 0]) (h' := cw nR nN nT X ρ φ) rfl ?_
    have hs := Option.some.inj hs
    subst hs
    exact qr_r hC rfl rfl
  · rw [if_neg hc] at hs
    refine qr_s hC (n := 2) (pc' := 6) (ls' := [.ref 14, .int x1]) (st' := [.ref 14, .int x1]) (h' := cw nR nN nT X ρ φ) rfl ?_
    obtain ⟨y1, hy, hs⟩ := qb1_s hs
    refine qr_c (j := 201) (as := [.ref 14]) (rest := [.int x1]) (v := some (.int y1)) (h1 := cw nR nN nT X ρ φ) hC rfl rfl qC_201 rfl rfl (pr_guesses_n F d nR nN nT X ρ φ _ (by omega) hy) ?_
    show qm_Rn (d + 1) 204 9 [.ref 14, .int x1] [.int y1, .int x1] (cw nR nN nT X ρ φ) _
    refine qr_ge2 (tgt := 16) hC rfl (by decide) rfl (fun hc => ?_) (fun hc => ?_)
    · rw [if_pos hc] at hs
      refine qr_s hC (n := 1) (pc' := 17) (ls' := [.ref 14, .int x1]) (st' := [.int 0]) (h' := cw nR nN nT X ρ φ) rfl ?_
      have hs := Option.some.inj hs
      subst hs
      exact qr_r hC rfl rfl
    · rw [if_neg hc] at hs
      refine qr_s hC (n := 2) (pc' := 17) (ls' := [.ref 14, .int x1]) (st' := [.int 1]) (h' := cw nR nN nT X ρ φ) rfl ?_
      have hs := Option.some.inj hs
      subst hs
      exact qr_r hC rfl rfl
/-- SketchFiller$Program.shiftOfHole(I)I -/
def pr_shiftOfHole_L6 (F : Nat) (nR nN nT : Nat) : Nat → qm_F → Int32 → Int32 → Option Int32
  | 0, _, _, _ => none
  | n + 1, φ, x2, x3 =>
    if (φ 14 2) ≤ x3 then
      some x2
    else
      qg (qm_in x3 5) <|
      pr_shiftOfHole_L6 F nR nN nT n φ (x2 + (φ 16 x3.toNatClampNeg)) (x3 + 1)
def pr_shiftOfHole (F : Nat) (nR nN nT : Nat) (φ : qm_F) (x1 : Int32) : Option Int32 :=
  pr_shiftOfHole_L6 F nR nN nT F φ 0 (x1 + 1)
set_option maxRecDepth 100000 in
theorem pr_shiftOfHole_L6_n (F d : Nat) (nR nN nT : Nat) (X : List (Nat × Nat)) (ρ : Nat → Nat → Option Nat) (hd : 0 ≤ d) : ∀ (n : Nat) (φ : qm_F) (x2 : Int32) (x3 : Int32) (r : Int32), pr_shiftOfHole_L6 F nR nN nT n φ x2 x3 = some r → qm_Rn d 207 6 [.ref 14, .retAddr 0, .int x2, .int x3] [] (cw nR nN nT X ρ φ) (some (.int r), cw nR nN nT X ρ φ) := by
  have hC := qC_207
  intro n
  induction n with
  | zero => intro φ x2 x3 r hs; simp [pr_shiftOfHole_L6] at hs
  | succ n ih =>
    intro φ x2 x3 r hs
    rw [pr_shiftOfHole_L6] at hs
    refine qr_s hC (n := 3) (pc' := 11) (ls' := [.ref 14, .retAddr 0, .int x2, .int x3]) (st' := [.int (φ 14 2), .int x3]) (h' := cw nR nN nT X ρ φ) rfl ?_
    refine qr_ge2 (tgt := 29) hC rfl (by decide) rfl (fun hc => ?_) (fun hc => ?_)
    · rw [if_pos hc] at hs
      refine qr_s hC (n := 1) (pc' := 30) (ls' := [.ref 14, .retAddr 0, .int x2, .int x3]) (st' := [.int x2]) (h' := cw nR nN nT X ρ φ) rfl ?_
      have hs := Option.some.inj hs
      subst hs
      exact qr_r hC rfl rfl
    · rw [if_neg hc] at hs
      refine qr_s hC (n := 4) (pc' := 20) (ls' := [.ref 14, .retAddr 0, .int x2, .int x3]) (st' := [.int x3, .ref 16, .int x2]) (h' := cw nR nN nT X ρ φ) rfl ?_
      obtain ⟨hq, hs⟩ := qg_s hs
      refine qr_ia (v := φ 16 x3.toNatClampNeg) hC rfl rfl hq rfl ?_
      refine qr_s hC (n := 4) (pc' := 6) (ls' := [.ref 14, .retAddr 0, .int (x2 + (φ 16 x3.toNatClampNeg)), .int (x3 + 1)]) (st' := []) (h' := cw nR nN nT X ρ φ) rfl ?_
      exact ih φ (x2 + (φ 16 x3.toNatClampNeg)) (x3 + 1) _ hs
set_option maxRecDepth 100000 in
theorem pr_shiftOfHole_n (F d : Nat) (nR nN nT : Nat) (X : List (Nat × Nat)) (ρ : Nat → Nat → Option Nat) (φ : qm_F) (x1 : Int32) (r : Int32) (hd : 0 ≤ d) (hs : pr_shiftOfHole F nR nN nT φ x1 = some r) : qm_Rn d 207 0 [.ref 14, .int x1, .retAddr 0, .retAddr 0] [] (cw nR nN nT X ρ φ) (some (.int r), cw nR nN nT X ρ φ) := by
  have hC := qC_207
  unfold pr_shiftOfHole at hs
  refine qr_s hC (n := 6) (pc' := 6) (ls' := [.ref 14, .int x1, .int 0, .int (x1 + 1)]) (st' := []) (h' := cw nR nN nT X ρ φ) rfl ?_
  exact qr_w (a := [.ref 14, .retAddr 0, .int 0, .int (x1 + 1)]) ⟨Or.inr rfl, Or.inl rfl, Or.inr rfl, Or.inr rfl, trivial⟩ (pr_shiftOfHole_L6_n F d nR nN nT X ρ (by omega) F φ 0 (x1 + 1) _ hs)
/-- SketchFiller$Program.valueOf(II)I -/
def pr_valueOf (F : Nat) (nR nN nT : Nat) (φ : qm_F) (x1 : Int32) (x2 : Int32) : Option Int32 :=
  qb1 (pr_hasHole F nR nN nT φ x2) fun y1 =>
  if y1 = 0 then
    some 0
  else
    qb1 (pr_shiftOfHole F nR nN nT φ x2) fun y2 =>
    qg (qm_in x2 5) <|
    some ((x1 >>> (y2 &&& 31)) &&& (((1 : Int32) <<< ((φ 16 x2.toNatClampNeg) &&& 31)) - 1))
set_option maxRecDepth 100000 in
theorem pr_valueOf_n (F d : Nat) (nR nN nT : Nat) (X : List (Nat × Nat)) (ρ : Nat → Nat → Option Nat) (φ : qm_F) (x1 : Int32) (x2 : Int32) (r : Int32) (hd : 1 ≤ d) (hs : pr_valueOf F nR nN nT φ x1 x2 = some r) : qm_Rn d 208 0 [.ref 14, .int x1, .int x2] [] (cw nR nN nT X ρ φ) (some (.int r), cw nR nN nT X ρ φ) := by
  obtain ⟨d, rfl⟩ : ∃ e, d = e + 1 := ⟨d - 1, by omega⟩
  have hC := qC_208
  unfold pr_valueOf at hs
  refine qr_s hC (n := 2) (pc' := 2) (ls' := [.ref 14, .int x1, .int x2]) (st' := [.int x2, .ref 14]) (h' := cw nR nN nT X ρ φ) rfl ?_
  obtain ⟨y1, hy, hs⟩ := qb1_s hs
  refine qr_c (j := 203) (as := [.ref 14, .int x2]) (rest := []) (v := some (.int y1)) (h1 := cw nR nN nT X ρ φ) hC rfl rfl qC_203 rfl rfl (pr_hasHole_n F d nR nN nT X ρ φ x2 _ (by omega) hy) ?_
  show qm_Rn (d + 1) 208 5 [.ref 14, .int x1, .int x2] [.int y1] (cw nR nN nT X ρ φ) _
  refine qr_eq1 (tgt := 29) hC rfl (by decide) rfl (fun hc => ?_) (fun hc => ?_)
  · rw [if_pos hc] at hs
    refine qr_s hC (n := 1) (pc' := 30) (ls' := [.ref 14, .int x1, .int x2]) (st' := [.int 0]) (h' := cw nR nN nT X ρ φ) rfl ?_
    have hs := Option.some.inj hs
    subst hs
    exact qr_r hC rfl rfl
  · rw [if_neg hc] at hs
    refine qr_s hC (n := 3) (pc' := 11) (ls' := [.ref 14, .int x1, .int x2]) (st' := [.int x2, .ref 14, .int x1]) (h' := cw nR nN nT X ρ φ) rfl ?_
    obtain ⟨y2, hy, hs⟩ := qb1_s hs
    refine qr_c (j := 207) (as := [.ref 14, .int x2]) (rest := [.int x1]) (v := some (.int y2)) (h1 := cw nR nN nT X ρ φ) hC rfl rfl qC_207 rfl rfl (pr_shiftOfHole_n F d nR nN nT X ρ φ x2 _ (by omega) hy) ?_
    show qm_Rn (d + 1) 208 14 [.ref 14, .int x1, .int x2] [.int y2, .int x1] (cw nR nN nT X ρ φ) _
    refine qr_s hC (n := 5) (pc' := 21) (ls' := [.ref 14, .int x1, .int x2]) (st' := [.int x2, .ref 16, .int 1, .int (x1 >>> (y2 &&& 31))]) (h' := cw nR nN nT X ρ φ) rfl ?_
    obtain ⟨hq, hs⟩ := qg_s hs
    refine qr_ia (v := φ 16 x2.toNatClampNeg) hC rfl rfl hq rfl ?_
    refine qr_s hC (n := 5) (pc' := 30) (ls' := [.ref 14, .int x1, .int x2]) (st' := [.int ((x1 >>> (y2 &&& 31)) &&& (((1 : Int32) <<< ((φ 16 x2.toNatClampNeg) &&& 31)) - 1))]) (h' := cw nR nN nT X ρ φ) rfl ?_
    have hs := Option.some.inj hs
    subst hs
    exact qr_r hC rfl rfl
/-- SketchFiller.value(II)I -/
def sf_value (F : Nat) (nR nN nT gg : Nat) (φ : qm_F) (x1 : Int32) (x2 : Int32) : Option Int32 :=
  qb1 (pr_hasGuess F nR nN nT φ x1) fun y1 =>
  if y1 = 0 then
    some (-1)
  else
    qb1 (pr_hasHole F nR nN nT φ x2) fun y2 =>
    if ¬ y2 = 0 then
      qb1 (pr_valueOf F nR nN nT φ x1 x2) fun y3 =>
      some y3
    else
      some (-1)
set_option maxRecDepth 100000 in
theorem sf_value_n (F d : Nat) (nR nN nT gg : Nat) (X : List (Nat × Nat)) (ρ : Nat → Nat → Option Nat) (φ : qm_F) (x1 : Int32) (x2 : Int32) (r : Int32) (hd : 2 ≤ d) (hs : sf_value F nR nN nT gg φ x1 x2 = some r) : qm_Rn d 5 0 [.ref 0, .int x1, .int x2] [] (cs nR nN nT gg X ρ φ) (some (.int r), cs nR nN nT gg X ρ φ) := by
  obtain ⟨d, rfl⟩ : ∃ e, d = e + 1 := ⟨d - 1, by omega⟩
  have hC := qC_5
  unfold sf_value at hs
  refine qr_s hC (n := 7) (pc' := 15) (ls' := [.ref 0, .int x1, .int x2]) (st' := [.int x1, .ref 14]) (h' := cs nR nN nT gg X ρ φ) rfl ?_
  obtain ⟨y1, hy, hs⟩ := qb1_s hs
  refine qr_c (j := 204) (as := [.ref 14, .int x1]) (rest := []) (v := some (.int y1)) (h1 := cs nR nN nT gg X ρ φ) hC rfl rfl qC_204 rfl rfl (pr_hasGuess_n F d nR nN nT (cr_X gg (cs_X gg X)) (cr_R (cs_R ρ)) φ x1 _ (by omega) hy) ?_
  show qm_Rn (d + 1) 5 18 [.ref 0, .int x1, .int x2] [.int y1] (cs nR nN nT gg X ρ φ) _
  refine qr_eq1 (tgt := 35) hC rfl (by decide) rfl (fun hc => ?_) (fun hc => ?_)
  · rw [if_pos hc] at hs
    refine qr_s hC (n := 1) (pc' := 36) (ls' := [.ref 0, .int x1, .int x2]) (st' := [.int (-1)]) (h' := cs nR nN nT gg X ρ φ) rfl ?_
    have hs := Option.some.inj hs
    subst hs
    exact qr_r hC rfl rfl
  · rw [if_neg hc] at hs
    refine qr_s hC (n := 4) (pc' := 29) (ls' := [.ref 0, .int x1, .int x2]) (st' := [.int x2, .ref 14]) (h' := cs nR nN nT gg X ρ φ) rfl ?_
    obtain ⟨y2, hy, hs⟩ := qb1_s hs
    refine qr_c (j := 203) (as := [.ref 14, .int x2]) (rest := []) (v := some (.int y2)) (h1 := cs nR nN nT gg X ρ φ) hC rfl rfl qC_203 rfl rfl (pr_hasHole_n F d nR nN nT (cr_X gg (cs_X gg X)) (cr_R (cs_R ρ)) φ x2 _ (by omega) hy) ?_
    show qm_Rn (d + 1) 5 32 [.ref 0, .int x1, .int x2] [.int y2] (cs nR nN nT gg X ρ φ) _
    refine qr_ne1 (tgt := 37) hC rfl (by decide) rfl (fun hc => ?_) (fun hc => ?_)
    · rw [if_pos hc] at hs
      refine qr_s hC (n := 5) (pc' := 46) (ls' := [.ref 0, .int x1, .int x2]) (st' := [.int x2, .int x1, .ref 14]) (h' := cs nR nN nT gg X ρ φ) rfl ?_
      obtain ⟨y3, hy, hs⟩ := qb1_s hs
      refine qr_c (j := 208) (as := [.ref 14, .int x1, .int x2]) (rest := []) (v := some (.int y3)) (h1 := cs nR nN nT gg X ρ φ) hC rfl rfl qC_208 rfl rfl (pr_valueOf_n F d nR nN nT (cr_X gg (cs_X gg X)) (cr_R (cs_R ρ)) φ x1 x2 _ (by omega) hy) ?_
      show qm_Rn (d + 1) 5 49 [.ref 0, .int x1, .int x2] [.int y3] (cs nR nN nT gg X ρ φ) _
      have hs := Option.some.inj hs
      subst hs
      exact qr_r hC rfl rfl
    · rw [if_neg hc] at hs
      refine qr_s hC (n := 1) (pc' := 36) (ls' := [.ref 0, .int x1, .int x2]) (st' := [.int (-1)]) (h' := cs nR nN nT gg X ρ φ) rfl ?_
      have hs := Option.some.inj hs
      subst hs
      exact qr_r hC rfl rfl
/-- SketchFiller$Program.costOf(I)I -/
def pr_costOf (F : Nat) (nR nN nT gg : Nat) (φ : qm_F) (x1 : Int32) : Option Int32 :=
  if x1 < 0 then
    some 0
  else
    qg (decide (gg < 2147483648)) <|
    if (Int32.ofNat gg) ≤ x1 then
      some 0
    else
      qg (qm_in x1 gg) <|
      some (φ 23 x1.toNatClampNeg)
set_option maxRecDepth 100000 in
theorem pr_costOf_n (F d : Nat) (nR nN nT gg : Nat) (X : List (Nat × Nat)) (ρ : Nat → Nat → Option Nat) (φ : qm_F) (x1 : Int32) (r : Int32) (hd : 0 ≤ d) (hs : pr_costOf F nR nN nT gg φ x1 = some r) : qm_Rn d 212 0 [.ref 14, .int x1] [] (cr nR nN nT gg X ρ φ) (some (.int r), cr nR nN nT gg X ρ φ) := by
  have hC := qC_212
  unfold pr_costOf at hs
  refine qr_s hC (n := 1) (pc' := 1) (ls' := [.ref 14, .int x1]) (st' := [.int x1]) (h' := cr nR nN nT gg X ρ φ) rfl ?_
  refine qr_lt1 (tgt := 22) hC rfl (by decide) rfl (fun hc => ?_) (fun hc => ?_)
  · rw [if_pos hc] at hs
    refine qr_s hC (n := 1) (pc' := 23) (ls' := [.ref 14, .int x1]) (st' := [.int 0]) (h' := cr nR nN nT gg X ρ φ) rfl ?_
    have hs := Option.some.inj hs
    subst hs
    exact qr_r hC rfl rfl
  · rw [if_neg hc] at hs
    refine qr_s hC (n := 3) (pc' := 9) (ls' := [.ref 14, .int x1]) (st' := [.ref 23, .int x1]) (h' := cr nR nN nT gg X ρ φ) rfl ?_
    obtain ⟨hq, hs⟩ := qg_s hs
    refine qr_al hC rfl rfl hq ?_
    refine qr_ge2 (tgt := 22) hC rfl (by decide) rfl (fun hc => ?_) (fun hc => ?_)
    · rw [if_pos hc] at hs
      refine qr_s hC (n := 1) (pc' := 23) (ls' := [.ref 14, .int x1]) (st' := [.int 0]) (h' := cr nR nN nT gg X ρ φ) rfl ?_
      have hs := Option.some.inj hs
      subst hs
      exact qr_r hC rfl rfl
    · rw [if_neg hc] at hs
      refine qr_s hC (n := 3) (pc' := 18) (ls' := [.ref 14, .int x1]) (st' := [.int x1, .ref 23]) (h' := cr nR nN nT gg X ρ φ) rfl ?_
      obtain ⟨hq, hs⟩ := qg_s hs
      refine qr_ia (v := φ 23 x1.toNatClampNeg) hC rfl rfl hq rfl ?_
      refine qr_s hC (n := 1) (pc' := 23) (ls' := [.ref 14, .int x1]) (st' := [.int (φ 23 x1.toNatClampNeg)]) (h' := cr nR nN nT gg X ρ φ) rfl ?_
      have hs := Option.some.inj hs
      subst hs
      exact qr_r hC rfl rfl
/-- SketchFiller.cost(I)I -/
def sf_cost (F : Nat) (nR nN nT gg : Nat) (φ : qm_F) (x1 : Int32) : Option Int32 :=
  qb1 (pr_hasGuess F nR nN nT φ x1) fun y1 =>
  if ¬ y1 = 0 then
    qb1 (pr_costOf F nR nN nT gg φ x1) fun y2 =>
    some y2
  else
    some (-1)
set_option maxRecDepth 100000 in
theorem sf_cost_n (F d : Nat) (nR nN nT gg : Nat) (X : List (Nat × Nat)) (ρ : Nat → Nat → Option Nat) (φ : qm_F) (x1 : Int32) (r : Int32) (hd : 2 ≤ d) (hs : sf_cost F nR nN nT gg φ x1 = some r) : qm_Rn d 6 0 [.ref 0, .int x1] [] (cs nR nN nT gg X ρ φ) (some (.int r), cs nR nN nT gg X ρ φ) := by
  obtain ⟨d, rfl⟩ : ∃ e, d = e + 1 := ⟨d - 1, by omega⟩
  have hC := qC_6
  unfold sf_cost at hs
  refine qr_s hC (n := 7) (pc' := 15) (ls' := [.ref 0, .int x1]) (st' := [.int x1, .ref 14]) (h' := cs nR nN nT gg X ρ φ) rfl ?_
  obtain ⟨y1, hy, hs⟩ := qb1_s hs
  refine qr_c (j := 204) (as := [.ref 14, .int x1]) (rest := []) (v := some (.int y1)) (h1 := cs nR nN nT gg X ρ φ) hC rfl rfl qC_204 rfl rfl (pr_hasGuess_n F d nR nN nT (cr_X gg (cs_X gg X)) (cr_R (cs_R ρ)) φ x1 _ (by omega) hy) ?_
  show qm_Rn (d + 1) 6 18 [.ref 0, .int x1] [.int y1] (cs nR nN nT gg X ρ φ) _
  refine qr_ne1 (tgt := 23) hC rfl (by decide) rfl (fun hc => ?_) (fun hc => ?_)
  · rw [if_pos hc] at hs
    refine qr_s hC (n := 4) (pc' := 31) (ls' := [.ref 0, .int x1]) (st' := [.int x1, .ref 14]) (h' := cs nR nN nT gg X ρ φ) rfl ?_
    obtain ⟨y2, hy, hs⟩ := qb1_s hs
    refine qr_c (j := 212) (as := [.ref 14, .int x1]) (rest := []) (v := some (.int y2)) (h1 := cs nR nN nT gg X ρ φ) hC rfl rfl qC_212 rfl rfl (pr_costOf_n F d nR nN nT gg (cs_X gg X) (cs_R ρ) φ x1 _ (by omega) hy) ?_
    show qm_Rn (d + 1) 6 34 [.ref 0, .int x1] [.int y2] (cs nR nN nT gg X ρ φ) _
    have hs := Option.some.inj hs
    subst hs
    exact qr_r hC rfl rfl
  · rw [if_neg hc] at hs
    refine qr_s hC (n := 1) (pc' := 22) (ls' := [.ref 0, .int x1]) (st' := [.int (-1)]) (h' := cs nR nN nT gg X ρ φ) rfl ?_
    have hs := Option.some.inj hs
    subst hs
    exact qr_r hC rfl rfl
/-- SketchFiller$Program.inputs()I -/
def pr_inputs (F : Nat) (nR nN nT : Nat) (φ : qm_F) : Option Int32 :=
  some ((1 : Int32) <<< ((φ 14 5) &&& 31))
set_option maxRecDepth 100000 in
theorem pr_inputs_n (F d : Nat) (nR nN nT : Nat) (X : List (Nat × Nat)) (ρ : Nat → Nat → Option Nat) (φ : qm_F) (r : Int32) (hd : 0 ≤ d) (hs : pr_inputs F nR nN nT φ = some r) : qm_Rn d 202 0 [.ref 14] [] (cw nR nN nT X ρ φ) (some (.int r), cw nR nN nT X ρ φ) := by
  have hC := qC_202
  unfold pr_inputs at hs
  refine qr_s hC (n := 4) (pc' := 6) (ls' := [.ref 14]) (st' := [.int ((1 : Int32) <<< ((φ 14 5) &&& 31))]) (h' := cw nR nN nT X ρ φ) rfl ?_
  have hs := Option.some.inj hs
  subst hs
  exact qr_r hC rfl rfl
/-- SketchFiller$Program.hasInput(I)Z -/
def pr_hasInput (F : Nat) (nR nN nT : Nat) (φ : qm_F) (x1 : Int32) : Option Int32 :=
  if x1 < 0 then
    some 0
  else
    qb1 (pr_inputs F nR nN nT φ) fun y1 =>
    if y1 ≤ x1 then
      some 0
    else
      some 1
set_option maxRecDepth 100000 in
theorem pr_hasInput_n (F d : Nat) (nR nN nT : Nat) (X : List (Nat × Nat)) (ρ : Nat → Nat → Option Nat) (φ : qm_F) (x1 : Int32) (r : Int32) (hd : 1 ≤ d) (hs : pr_hasInput F nR nN nT φ x1 = some r) : qm_Rn d 205 0 [.ref 14, .int x1] [] (cw nR nN nT X ρ φ) (some (.int r), cw nR nN nT X ρ φ) := by
  obtain ⟨d, rfl⟩ : ∃ e, d = e + 1 := ⟨d - 1, by omega⟩
  have hC := qC_205
  unfold pr_hasInput at hs
  refine qr_s hC (n := 1) (pc' := 1) (ls' := [.ref 14, .int x1]) (st' := [.int x1]) (h' := cw nR nN nT X ρ φ) rfl ?_
  refine qr_lt1 (tgt := 16) hC rfl (by decide) rfl (fun hc => ?_) (fun hc => ?_)
  · rw [if_pos hc] at hs
    refine qr_s hC (n := 1) (pc' := 17) (ls' := [.ref 14, .int x1]) (st' := [.int 0]) (h' := cw nR nN nT X ρ φ) rfl ?_
    have hs := Option.some.inj hs
    subst hs
    exact qr_r hC rfl rfl
  · rw [if_neg hc] at hs
    refine qr_s hC (n := 2) (pc' := 6) (ls' := [.ref 14, .int x1]) (st' := [.ref 14, .int x1]) (h' := cw nR nN nT X ρ φ) rfl ?_
    obtain ⟨y1, hy, hs⟩ := qb1_s hs
    refine qr_c (j := 202) (as := [.ref 14]) (rest := [.int x1]) (v := some (.int y1)) (h1 := cw nR nN nT X ρ φ) hC rfl rfl qC_202 rfl rfl (pr_inputs_n F d nR nN nT X ρ φ _ (by omega) hy) ?_
    show qm_Rn (d + 1) 205 9 [.ref 14, .int x1] [.int y1, .int x1] (cw nR nN nT X ρ φ) _
    refine qr_ge2 (tgt := 16) hC rfl (by decide) rfl (fun hc => ?_) (fun hc => ?_)
    · rw [if_pos hc] at hs
      refine qr_s hC (n := 1) (pc' := 17) (ls' := [.ref 14, .int x1]) (st' := [.int 0]) (h' := cw nR nN nT X ρ φ) rfl ?_
      have hs := Option.some.inj hs
      subst hs
      exact qr_r hC rfl rfl
    · rw [if_neg hc] at hs
      refine qr_s hC (n := 2) (pc' := 17) (ls' := [.ref 14, .int x1]) (st' := [.int 1]) (h' := cw nR nN nT X ρ φ) rfl ?_
      have hs := Option.some.inj hs
      subst hs
      exact qr_r hC rfl rfl
/-- SketchFiller$Program.hasRun(II)Z -/
def pr_hasRun (F : Nat) (nR nN nT : Nat) (φ : qm_F) (x1 : Int32) (x2 : Int32) : Option Int32 :=
  qb1 (pr_hasGuess F nR nN nT φ x1) fun y1 =>
  if y1 = 0 then
    some 0
  else
    qb1 (pr_hasInput F nR nN nT φ x2) fun y2 =>
    if y2 = 0 then
      some 0
    else
      some 1
set_option maxRecDepth 100000 in
theorem pr_hasRun_n (F d : Nat) (nR nN nT : Nat) (X : List (Nat × Nat)) (ρ : Nat → Nat → Option Nat) (φ : qm_F) (x1 : Int32) (x2 : Int32) (r : Int32) (hd : 2 ≤ d) (hs : pr_hasRun F nR nN nT φ x1 x2 = some r) : qm_Rn d 206 0 [.ref 14, .int x1, .int x2] [] (cw nR nN nT X ρ φ) (some (.int r), cw nR nN nT X ρ φ) := by
  obtain ⟨d, rfl⟩ : ∃ e, d = e + 1 := ⟨d - 1, by omega⟩
  have hC := qC_206
  unfold pr_hasRun at hs
  refine qr_s hC (n := 2) (pc' := 2) (ls' := [.ref 14, .int x1, .int x2]) (st' := [.int x1, .ref 14]) (h' := cw nR nN nT X ρ φ) rfl ?_
  obtain ⟨y1, hy, hs⟩ := qb1_s hs
  refine qr_c (j := 204) (as := [.ref 14, .int x1]) (rest := []) (v := some (.int y1)) (h1 := cw nR nN nT X ρ φ) hC rfl rfl qC_204 rfl rfl (pr_hasGuess_n F d nR nN nT X ρ φ x1 _ (by omega) hy) ?_
  show qm_Rn (d + 1) 206 5 [.ref 14, .int x1, .int x2] [.int y1] (cw nR nN nT X ρ φ) _
  refine qr_eq1 (tgt := 20) hC rfl (by decide) rfl (fun hc => ?_) (fun hc => ?_)
  · rw [if_pos hc] at hs
    refine qr_s hC (n := 1) (pc' := 21) (ls' := [.ref 14, .int x1, .int x2]) (st' := [.int 0]) (h' := cw nR nN nT X ρ φ) rfl ?_
    have hs := Option.some.inj hs
    subst hs
    exact qr_r hC rfl rfl
  · rw [if_neg hc] at hs
    refine qr_s hC (n := 2) (pc' := 10) (ls' := [.ref 14, .int x1, .int x2]) (st' := [.int x2, .ref 14]) (h' := cw nR nN nT X ρ φ) rfl ?_
    obtain ⟨y2, hy, hs⟩ := qb1_s hs
    refine qr_c (j := 205) (as := [.ref 14, .int x2]) (rest := []) (v := some (.int y2)) (h1 := cw nR nN nT X ρ φ) hC rfl rfl qC_205 rfl rfl (pr_hasInput_n F d nR nN nT X ρ φ x2 _ (by omega) hy) ?_
    show qm_Rn (d + 1) 206 13 [.ref 14, .int x1, .int x2] [.int y2] (cw nR nN nT X ρ φ) _
    refine qr_eq1 (tgt := 20) hC rfl (by decide) rfl (fun hc => ?_) (fun hc => ?_)
    · rw [if_pos hc] at hs
      refine qr_s hC (n := 1) (pc' := 21) (ls' := [.ref 14, .int x1, .int x2]) (st' := [.int 0]) (h' := cw nR nN nT X ρ φ) rfl ?_
      have hs := Option.some.inj hs
      subst hs
      exact qr_r hC rfl rfl
    · rw [if_neg hc] at hs
      refine qr_s hC (n := 2) (pc' := 21) (ls' := [.ref 14, .int x1, .int x2]) (st' := [.int 1]) (h' := cw nR nN nT X ρ φ) rfl ?_
      have hs := Option.some.inj hs
      subst hs
      exact qr_r hC rfl rfl
/-- SketchFiller$Machine.push(I)V -/
def ma_push (F : Nat) (nR nN nT gg : Nat) (φ : qm_F) (x1 : Int32) : Option qm_F :=
  if (φ 26 5) < 0 then
    some φ
  else
    if 64 ≤ (φ 26 5) then
      some φ
    else
      qg (qm_in (φ 26 5) 64) <|
      some (qm_u (qm_u φ 29 ((φ 26 5).toNatClampNeg) (x1 &&& (φ 26 1))) 26 5 ((φ 26 5) + 1))
set_option maxRecDepth 100000 in
theorem ma_push_n (F d : Nat) (nR nN nT gg : Nat) (X : List (Nat × Nat)) (ρ : Nat → Nat → Option Nat) (φ : qm_F) (x1 : Int32) (r : qm_F) (hd : 0 ≤ d) (hs : ma_push F nR nN nT gg φ x1 = some r) : qm_Rn d 153 0 [.ref 26, .int x1] [] (cs nR nN nT gg X ρ φ) (none, cs nR nN nT gg X ρ r) := by
  have hC := qC_153
  unfold ma_push at hs
  refine qr_s hC (n := 2) (pc' := 4) (ls' := [.ref 26, .int x1]) (st' := [.int (φ 26 5)]) (h' := cs nR nN nT gg X ρ φ) rfl ?_
  refine qr_lt1 (tgt := 44) hC rfl (by decide) rfl (fun hc => ?_) (fun hc => ?_)
  · rw [if_pos hc] at hs
    have hs := Option.some.inj hs
    subst hs
    exact qr_r hC rfl rfl
  · rw [if_neg hc] at hs
    refine qr_s hC (n := 5) (pc' := 16) (ls' := [.ref 26, .int x1]) (st' := [.int 64, .int (φ 26 5)]) (h' := cs nR nN nT gg X ρ φ) rfl ?_
    refine qr_ge2 (tgt := 44) hC rfl (by decide) rfl (fun hc => ?_) (fun hc => ?_)
    · rw [if_pos hc] at hs
      have hs := Option.some.inj hs
      subst hs
      exact qr_r hC rfl rfl
    · rw [if_neg hc] at hs
      refine qr_s hC (n := 8) (pc' := 33) (ls' := [.ref 26, .int x1]) (st' := [.int (x1 &&& (φ 26 1)), .int (φ 26 5), .ref 29]) (h' := cs nR nN nT gg X ρ φ) rfl ?_
      obtain ⟨hq, hs⟩ := qg_s hs
      refine qr_is (h' := cs nR nN nT gg X ρ (qm_u φ 29 ((φ 26 5).toNatClampNeg) (x1 &&& (φ 26 1)))) hC rfl rfl hq rfl ?_
      refine qr_s hC (n := 6) (pc' := 44) (ls' := [.ref 26, .int x1]) (st' := []) (h' := cs nR nN nT gg X ρ (qm_u (qm_u φ 29 ((φ 26 5).toNatClampNeg) (x1 &&& (φ 26 1))) 26 5 ((φ 26 5) + 1))) rfl ?_
      have hs := Option.some.inj hs
      subst hs
      exact qr_r hC rfl rfl
/-- SketchFiller$Machine.pop()I -/
def ma_pop (F : Nat) (nR nN nT gg : Nat) (φ : qm_F) : Option (Int32 × qm_F) :=
  if (φ 26 5) ≤ 0 then
    some (0, φ)
  else
    if (φ 26 5) ≤ 64 then
      qg (qm_in ((φ 26 5) - 1) 64) <|
      some (φ 29 (((φ 26 5) - 1).toNatClampNeg), (qm_u φ 26 5 ((φ 26 5) - 1)))
    else
      some (0, φ)
set_option maxRecDepth 100000 in
theorem ma_pop_n (F d : Nat) (nR nN nT gg : Nat) (X : List (Nat × Nat)) (ρ : Nat → Nat → Option Nat) (φ : qm_F) (r : (Int32 × qm_F)) (hd : 0 ≤ d) (hs : ma_pop F nR nN nT gg φ = some r) : qm_Rn d 154 0 [.ref 26] [] (cs nR nN nT gg X ρ φ) (some (.int r.1), cs nR nN nT gg X ρ r.2) := by
  have hC := qC_154
  unfold ma_pop at hs
  refine qr_s hC (n := 2) (pc' := 4) (ls' := [.ref 26]) (st' := [.int (φ 26 5)]) (h' := cs nR nN nT gg X ρ φ) rfl ?_
  refine qr_le1 (tgt := 19) hC rfl (by decide) rfl (fun hc => ?_) (fun hc => ?_)
  · rw [if_pos hc] at hs
    refine qr_s hC (n := 1) (pc' := 20) (ls' := [.ref 26]) (st' := [.int 0]) (h' := cs nR nN nT gg X ρ φ) rfl ?_
    have hs := Option.some.inj hs
    subst hs
    exact qr_r hC rfl rfl
  · rw [if_neg hc] at hs
    refine qr_s hC (n := 5) (pc' := 16) (ls' := [.ref 26]) (st' := [.int 64, .int (φ 26 5)]) (h' := cs nR nN nT gg X ρ φ) rfl ?_
    refine qr_le2 (tgt := 21) hC rfl (by decide) rfl (fun hc => ?_) (fun hc => ?_)
    · rw [if_pos hc] at hs
      refine qr_s hC (n := 10) (pc' := 39) (ls' := [.ref 26]) (st' := [.int ((φ 26 5) - 1), .ref 29]) (h' := cs nR nN nT gg X ρ (qm_u φ 26 5 ((φ 26 5) - 1))) rfl ?_
      obtain ⟨hq, hs⟩ := qg_s hs
      refine qr_ia (v := φ 29 (((φ 26 5) - 1).toNatClampNeg)) hC rfl rfl hq rfl ?_
      have hs := Option.some.inj hs
      subst hs
      exact qr_r hC rfl rfl
    · rw [if_neg hc] at hs
      refine qr_s hC (n := 1) (pc' := 20) (ls' := [.ref 26]) (st' := [.int 0]) (h' := cs nR nN nT gg X ρ φ) rfl ?_
      have hs := Option.some.inj hs
      subst hs
      exact qr_r hC rfl rfl
/-- SketchFiller$Machine.store(II)V -/
def ma_store (F : Nat) (nR nN nT gg : Nat) (φ : qm_F) (x1 : Int32) (x2 : Int32) : Option qm_F :=
  if x1 < 0 then
    some φ
  else
    if 15 ≤ x1 then
      some φ
    else
      qg (qm_in x1 15) <|
      some (qm_u φ 27 x1.toNatClampNeg x2)
set_option maxRecDepth 100000 in
theorem ma_store_n (F d : Nat) (nR nN nT gg : Nat) (X : List (Nat × Nat)) (ρ : Nat → Nat → Option Nat) (φ : qm_F) (x1 : Int32) (x2 : Int32) (r : qm_F) (hd : 0 ≤ d) (hs : ma_store F nR nN nT gg φ x1 x2 = some r) : qm_Rn d 155 0 [.ref 26, .int x1, .int x2] [] (cs nR nN nT gg X ρ φ) (none, cs nR nN nT gg X ρ r) := by
  have hC := qC_155
  unfold ma_store at hs
  refine qr_s hC (n := 1) (pc' := 1) (ls' := [.ref 26, .int x1, .int x2]) (st' := [.int x1]) (h' := cs nR nN nT gg X ρ φ) rfl ?_
  refine qr_lt1 (tgt := 20) hC rfl (by decide) rfl (fun hc => ?_) (fun hc => ?_)
  · rw [if_pos hc] at hs
    have hs := Option.some.inj hs
    subst hs
    exact qr_r hC rfl rfl
  · rw [if_neg hc] at hs
    refine qr_s hC (n := 4) (pc' := 10) (ls' := [.ref 26, .int x1, .int x2]) (st' := [.int 15, .int x1]) (h' := cs nR nN nT gg X ρ φ) rfl ?_
    refine qr_ge2 (tgt := 20) hC rfl (by decide) rfl (fun hc => ?_) (fun hc => ?_)
    · rw [if_pos hc] at hs
      have hs := Option.some.inj hs
      subst hs
      exact qr_r hC rfl rfl
    · rw [if_neg hc] at hs
      refine qr_s hC (n := 4) (pc' := 19) (ls' := [.ref 26, .int x1, .int x2]) (st' := [.int x2, .int x1, .ref 27]) (h' := cs nR nN nT gg X ρ φ) rfl ?_
      obtain ⟨hq, hs⟩ := qg_s hs
      refine qr_is (h' := cs nR nN nT gg X ρ (qm_u φ 27 x1.toNatClampNeg x2)) hC rfl rfl hq rfl ?_
      have hs := Option.some.inj hs
      subst hs
      exact qr_r hC rfl rfl
/-- SketchFiller$Machine.beginStep()V -/
def ma_beginStep (F : Nat) (nR nN nT gg : Nat) (φ : qm_F) : Option qm_F :=
  if (φ 26 8) < 120 then
    some (qm_u φ 26 8 ((φ 26 8) + 1))
  else
    some (qm_u φ 26 9 5)
set_option maxRecDepth 100000 in
theorem ma_beginStep_n (F d : Nat) (nR nN nT gg : Nat) (X : List (Nat × Nat)) (ρ : Nat → Nat → Option Nat) (φ : qm_F) (r : qm_F) (hd : 0 ≤ d) (hs : ma_beginStep F nR nN nT gg φ = some r) : qm_Rn d 156 0 [.ref 26] [] (cs nR nN nT gg X ρ φ) (none, cs nR nN nT gg X ρ r) := by
  have hC := qC_156
  unfold ma_beginStep at hs
  refine qr_s hC (n := 3) (pc' := 6) (ls' := [.ref 26]) (st' := [.int 120, .int (φ 26 8)]) (h' := cs nR nN nT gg X ρ φ) rfl ?_
  refine qr_lt2 (tgt := 17) hC rfl (by decide) rfl (fun hc => ?_) (fun hc => ?_)
  · rw [if_pos hc] at hs
    refine qr_s hC (n := 6) (pc' := 27) (ls' := [.ref 26]) (st' := []) (h' := cs nR nN nT gg X ρ (qm_u φ 26 8 ((φ 26 8) + 1))) rfl ?_
    have hs := Option.some.inj hs
    subst hs
    exact qr_r hC rfl rfl
  · rw [if_neg hc] at hs
    refine qr_s hC (n := 4) (pc' := 27) (ls' := [.ref 26]) (st' := []) (h' := cs nR nN nT gg X ρ (qm_u φ 26 9 5)) rfl ?_
    have hs := Option.some.inj hs
    subst hs
    exact qr_r hC rfl rfl
/-- SketchFiller$Machine.beginRounds(II)V -/
def ma_beginRounds (F : Nat) (nR nN nT gg : Nat) (φ : qm_F) (x1 : Int32) (x2 : Int32) : Option qm_F :=
  if x1 < 0 then
    some φ
  else
    if 4 ≤ x1 then
      some φ
    else
      qg (qm_in x1 4) <|
      some (qm_u φ 28 x1.toNatClampNeg x2)
set_option maxRecDepth 100000 in
theorem ma_beginRounds_n (F d : Nat) (nR nN nT gg : Nat) (X : List (Nat × Nat)) (ρ : Nat → Nat → Option Nat) (φ : qm_F) (x1 : Int32) (x2 : Int32) (r : qm_F) (hd : 0 ≤ d) (hs : ma_beginRounds F nR nN nT gg φ x1 x2 = some r) : qm_Rn d 157 0 [.ref 26, .int x1, .int x2] [] (cs nR nN nT gg X ρ φ) (none, cs nR nN nT gg X ρ r) := by
  have hC := qC_157
  unfold ma_beginRounds at hs
  refine qr_s hC (n := 1) (pc' := 1) (ls' := [.ref 26, .int x1, .int x2]) (st' := [.int x1]) (h' := cs nR nN nT gg X ρ φ) rfl ?_
  refine qr_lt1 (tgt := 20) hC rfl (by decide) rfl (fun hc => ?_) (fun hc => ?_)
  · rw [if_pos hc] at hs
    have hs := Option.some.inj hs
    subst hs
    exact qr_r hC rfl rfl
  · rw [if_neg hc] at hs
    refine qr_s hC (n := 4) (pc' := 10) (ls' := [.ref 26, .int x1, .int x2]) (st' := [.int 4, .int x1]) (h' := cs nR nN nT gg X ρ φ) rfl ?_
    refine qr_ge2 (tgt := 20) hC rfl (by decide) rfl (fun hc => ?_) (fun hc => ?_)
    · rw [if_pos hc] at hs
      have hs := Option.some.inj hs
      subst hs
      exact qr_r hC rfl rfl
    · rw [if_neg hc] at hs
      refine qr_s hC (n := 4) (pc' := 19) (ls' := [.ref 26, .int x1, .int x2]) (st' := [.int x2, .int x1, .ref 28]) (h' := cs nR nN nT gg X ρ φ) rfl ?_
      obtain ⟨hq, hs⟩ := qg_s hs
      refine qr_is (h' := cs nR nN nT gg X ρ (qm_u φ 28 x1.toNatClampNeg x2)) hC rfl rfl hq rfl ?_
      have hs := Option.some.inj hs
      subst hs
      exact qr_r hC rfl rfl
/-- SketchFiller$Machine.goRoundAgain(II)V -/
def ma_goRoundAgain (F : Nat) (nR nN nT gg : Nat) (φ : qm_F) (x1 : Int32) (x2 : Int32) : Option qm_F :=
  if x1 < 0 then
    some φ
  else
    if x1 < 4 then
      qg (qm_in x1 4) <|
      qg (qm_in x1 4) <|
      qg (qm_in x1 4) <|
      if ((qm_u φ 28 x1.toNatClampNeg ((φ 28 x1.toNatClampNeg) - 1)) 28 x1.toNatClampNeg) ≤ 0 then
        some (qm_u φ 28 x1.toNatClampNeg ((φ 28 x1.toNatClampNeg) - 1))
      else
        some (qm_u (qm_u φ 28 x1.toNatClampNeg ((φ 28 x1.toNatClampNeg) - 1)) 26 6 x2)
    else
      some φ
set_option maxRecDepth 100000 in
theorem ma_goRoundAgain_n (F d : Nat) (nR nN nT gg : Nat) (X : List (Nat × Nat)) (ρ : Nat → Nat → Option Nat) (φ : qm_F) (x1 : Int32) (x2 : Int32) (r : qm_F) (hd : 0 ≤ d) (hs : ma_goRoundAgain F nR nN nT gg φ x1 x2 = some r) : qm_Rn d 158 0 [.ref 26, .int x1, .int x2] [] (cs nR nN nT gg X ρ φ) (none, cs nR nN nT gg X ρ r) := by
  have hC := qC_158
  unfold ma_goRoundAgain at hs
  refine qr_s hC (n := 1) (pc' := 1) (ls' := [.ref 26, .int x1, .int x2]) (st' := [.int x1]) (h' := cs nR nN nT gg X ρ φ) rfl ?_
  refine qr_lt1 (tgt := 13) hC rfl (by decide) rfl (fun hc => ?_) (fun hc => ?_)
  · rw [if_pos hc] at hs
    have hs := Option.some.inj hs
    subst hs
    exact qr_r hC rfl rfl
  · rw [if_neg hc] at hs
    refine qr_s hC (n := 4) (pc' := 10) (ls' := [.ref 26, .int x1, .int x2]) (st' := [.int 4, .int x1]) (h' := cs nR nN nT gg X ρ φ) rfl ?_
    refine qr_lt2 (tgt := 14) hC rfl (by decide) rfl (fun hc => ?_) (fun hc => ?_)
    · rw [if_pos hc] at hs
      refine qr_s hC (n := 4) (pc' := 20) (ls' := [.ref 26, .int x1, .int x2]) (st' := [.int x1, .ref 28, .int x1, .ref 28]) (h' := cs nR nN nT gg X ρ φ) rfl ?_
      obtain ⟨hq, hs⟩ := qg_s hs
      refine qr_ia (v := φ 28 x1.toNatClampNeg) hC rfl rfl hq rfl ?_
      refine qr_s hC (n := 2) (pc' := 23) (ls' := [.ref 26, .int x1, .int x2]) (st' := [.int ((φ 28 x1.toNatClampNeg) - 1), .int x1, .ref 28]) (h' := cs nR nN nT gg X ρ φ) rfl ?_
      obtain ⟨hq, hs⟩ := qg_s hs
      refine qr_is (h' := cs nR nN nT gg X ρ (qm_u φ 28 x1.toNatClampNeg ((φ 28 x1.toNatClampNeg) - 1))) hC rfl rfl hq rfl ?_
      refine qr_s hC (n := 3) (pc' := 29) (ls' := [.ref 26, .int x1, .int x2]) (st' := [.int x1, .ref 28]) (h' := cs nR nN nT gg X ρ (qm_u φ 28 x1.toNatClampNeg ((φ 28 x1.toNatClampNeg) - 1))) rfl ?_
      obtain ⟨hq, hs⟩ := qg_s hs
      refine qr_ia (v := (qm_u φ 28 x1.toNatClampNeg ((φ 28 x1.toNatClampNeg) - 1)) 28 x1.toNatClampNeg) hC rfl rfl hq rfl ?_
      refine qr_le1 (tgt := 38) hC rfl (by decide) rfl (fun hc => ?_) (fun hc => ?_)
      · rw [if_pos hc] at hs
        have hs := Option.some.inj hs
        subst hs
        exact qr_r hC rfl rfl
      · rw [if_neg hc] at hs
        refine qr_s hC (n := 3) (pc' := 38) (ls' := [.ref 26, .int x1, .int x2]) (st' := []) (h' := cs nR nN nT gg X ρ (qm_u (qm_u φ 28 x1.toNatClampNeg ((φ 28 x1.toNatClampNeg) - 1)) 26 6 x2)) rfl ?_
        have hs := Option.some.inj hs
        subst hs
        exact qr_r hC rfl rfl
    · rw [if_neg hc] at hs
      have hs := Option.some.inj hs
      subst hs
      exact qr_r hC rfl rfl
/-- SketchFiller$Machine.testWhile(III)V -/
def ma_testWhile (F : Nat) (nR nN nT gg : Nat) (φ : qm_F) (x1 : Int32) (x2 : Int32) (x3 : Int32) : Option qm_F :=
  if x1 < 0 then
    some (qm_u φ 26 6 x2)
  else
    if 4 ≤ x1 then
      some (qm_u φ 26 6 x2)
    else
      if ¬ x3 = 0 then
        qg (qm_in x1 4) <|
        if 0 < (φ 28 x1.toNatClampNeg) then
          qg (qm_in x1 4) <|
          qg (qm_in x1 4) <|
          some (qm_u φ 28 x1.toNatClampNeg ((φ 28 x1.toNatClampNeg) - 1))
        else
          some (qm_u φ 26 9 4)
      else
        some (qm_u φ 26 6 x2)
set_option maxRecDepth 100000 in
theorem ma_testWhile_n (F d : Nat) (nR nN nT gg : Nat) (X : List (Nat × Nat)) (ρ : Nat → Nat → Option Nat) (φ : qm_F) (x1 : Int32) (x2 : Int32) (x3 : Int32) (r : qm_F) (hd : 0 ≤ d) (hs : ma_testWhile F nR nN nT gg φ x1 x2 x3 = some r) : qm_Rn d 159 0 [.ref 26, .int x1, .int x2, .int x3] [] (cs nR nN nT gg X ρ φ) (none, cs nR nN nT gg X ρ r) := by
  have hC := qC_159
  unfold ma_testWhile at hs
  refine qr_s hC (n := 1) (pc' := 1) (ls' := [.ref 26, .int x1, .int x2, .int x3]) (st' := [.int x1]) (h' := cs nR nN nT gg X ρ φ) rfl ?_
  refine qr_lt1 (tgt := 17) hC rfl (by decide) rfl (fun hc => ?_) (fun hc => ?_)
  · rw [if_pos hc] at hs
    refine qr_s hC (n := 4) (pc' := 52) (ls' := [.ref 26, .int x1, .int x2, .int x3]) (st' := []) (h' := cs nR nN nT gg X ρ (qm_u φ 26 6 x2)) rfl ?_
    have hs := Option.some.inj hs
    subst hs
    exact qr_r hC rfl rfl
  · rw [if_neg hc] at hs
    refine qr_s hC (n := 4) (pc' := 10) (ls' := [.ref 26, .int x1, .int x2, .int x3]) (st' := [.int 4, .int x1]) (h' := cs nR nN nT gg X ρ φ) rfl ?_
    refine qr_ge2 (tgt := 17) hC rfl (by decide) rfl (fun hc => ?_) (fun hc => ?_)
    · rw [if_pos hc] at hs
      refine qr_s hC (n := 4) (pc' := 52) (ls' := [.ref 26, .int x1, .int x2, .int x3]) (st' := []) (h' := cs nR nN nT gg X ρ (qm_u φ 26 6 x2)) rfl ?_
      have hs := Option.some.inj hs
      subst hs
      exact qr_r hC rfl rfl
    · rw [if_neg hc] at hs
      refine qr_s hC (n := 1) (pc' := 14) (ls' := [.ref 26, .int x1, .int x2, .int x3]) (st' := [.int x3]) (h' := cs nR nN nT gg X ρ φ) rfl ?_
      refine qr_ne1 (tgt := 25) hC rfl (by decide) rfl (fun hc => ?_) (fun hc => ?_)
      · rw [if_pos hc] at hs
        refine qr_s hC (n := 3) (pc' := 30) (ls' := [.ref 26, .int x1, .int x2, .int x3]) (st' := [.int x1, .ref 28]) (h' := cs nR nN nT gg X ρ φ) rfl ?_
        obtain ⟨hq, hs⟩ := qg_s hs
        refine qr_ia (v := φ 28 x1.toNatClampNeg) hC rfl rfl hq rfl ?_
        refine qr_gt1 (tgt := 42) hC rfl (by decide) rfl (fun hc => ?_) (fun hc => ?_)
        · rw [if_pos hc] at hs
          refine qr_s hC (n := 4) (pc' := 48) (ls' := [.ref 26, .int x1, .int x2, .int x3]) (st' := [.int x1, .ref 28, .int x1, .ref 28]) (h' := cs nR nN nT gg X ρ φ) rfl ?_
          obtain ⟨hq, hs⟩ := qg_s hs
          refine qr_ia (v := φ 28 x1.toNatClampNeg) hC rfl rfl hq rfl ?_
          refine qr_s hC (n := 2) (pc' := 51) (ls' := [.ref 26, .int x1, .int x2, .int x3]) (st' := [.int ((φ 28 x1.toNatClampNeg) - 1), .int x1, .ref 28]) (h' := cs nR nN nT gg X ρ φ) rfl ?_
          obtain ⟨hq, hs⟩ := qg_s hs
          refine qr_is (h' := cs nR nN nT gg X ρ (qm_u φ 28 x1.toNatClampNeg ((φ 28 x1.toNatClampNeg) - 1))) hC rfl rfl hq rfl ?_
          have hs := Option.some.inj hs
          subst hs
          exact qr_r hC rfl rfl
        · rw [if_neg hc] at hs
          refine qr_s hC (n := 4) (pc' := 52) (ls' := [.ref 26, .int x1, .int x2, .int x3]) (st' := []) (h' := cs nR nN nT gg X ρ (qm_u φ 26 9 4)) rfl ?_
          have hs := Option.some.inj hs
          subst hs
          exact qr_r hC rfl rfl
      · rw [if_neg hc] at hs
        refine qr_s hC (n := 4) (pc' := 52) (ls' := [.ref 26, .int x1, .int x2, .int x3]) (st' := []) (h' := cs nR nN nT gg X ρ (qm_u φ 26 6 x2)) rfl ?_
        have hs := Option.some.inj hs
        subst hs
        exact qr_r hC rfl rfl
/-- SketchFiller$Machine.join(I)V -/
def ma_join_L282 (F : Nat) (nR nN nT gg : Nat) (φ : qm_F) (x4 : Int32) : Option qm_F :=
  qg (qm_in ((φ 26 5) - 1) 64) <|
  some (qm_u φ 29 (((φ 26 5) - 1).toNatClampNeg) (x4 &&& (φ 26 1)))
def ma_join_L206 (F : Nat) (nR nN nT gg : Nat) (φ : qm_F) (s0 : Int32) : Option qm_F :=
  ma_join_L282 F nR nN nT gg φ s0
def ma_join_L221 (F : Nat) (nR nN nT gg : Nat) (φ : qm_F) (s0 : Int32) : Option qm_F :=
  ma_join_L282 F nR nN nT gg φ s0
def ma_join_L261 (F : Nat) (nR nN nT gg : Nat) (φ : qm_F) (s0 : Int32) : Option qm_F :=
  ma_join_L282 F nR nN nT gg φ s0
def ma_join_L277 (F : Nat) (nR nN nT gg : Nat) (φ : qm_F) (s0 : Int32) : Option qm_F :=
  ma_join_L282 F nR nN nT gg φ s0
def ma_join_L77 (F : Nat) (nR nN nT gg : Nat) (φ : qm_F) (x1 : Int32) (x2 : Int32) (x3 : Int32) : Option qm_F :=
  if x1 = 37 then
    if ¬ x2 = 0 then
      qg (!decide (x2 = 0)) <|
      ma_join_L277 F nR nN nT gg φ (x3 - x3 / x2 * x2)
    else
      ma_join_L277 F nR nN nT gg φ 0
  else
  if x1 = 38 then
    ma_join_L282 F nR nN nT gg φ (x3 &&& x2)
  else
  if x1 = 42 then
    ma_join_L282 F nR nN nT gg φ (x3 * x2)
  else
  if x1 = 43 then
    ma_join_L282 F nR nN nT gg φ (x3 + x2)
  else
  if x1 = 45 then
    ma_join_L282 F nR nN nT gg φ (x3 - x2)
  else
  if x1 = 47 then
    if ¬ x2 = 0 then
      qg (!decide (x2 = 0)) <|
      ma_join_L261 F nR nN nT gg φ (x3 / x2)
    else
      ma_join_L261 F nR nN nT gg φ 0
  else
  if x1 = 60 then
    if x2 ≤ x3 then
      ma_join_L221 F nR nN nT gg φ 0
    else
      ma_join_L221 F nR nN nT gg φ 1
  else
  if x1 = 61 then
    if ¬ x3 = x2 then
      ma_join_L206 F nR nN nT gg φ 0
    else
      ma_join_L206 F nR nN nT gg φ 1
  else
  if x1 = 94 then
    ma_join_L282 F nR nN nT gg φ (x3 ^^^ x2)
  else
  if x1 = 124 then
    ma_join_L282 F nR nN nT gg φ (x3 ||| x2)
  else
  ma_join_L282 F nR nN nT gg φ 0
def ma_join_L67 (F : Nat) (nR nN nT gg : Nat) (φ : qm_F) (x1 : Int32) (x2 : Int32) (x3 : Int32) : Option qm_F :=
  if ¬ x2 = 0 then
    ma_join_L77 F nR nN nT gg φ x1 x2 x3
  else
    some (qm_u φ 26 9 3)
def ma_join (F : Nat) (nR nN nT gg : Nat) (φ : qm_F) (x1 : Int32) : Option qm_F :=
  if (φ 26 5) < 2 then
    some φ
  else
    if (φ 26 5) ≤ 64 then
      qg (qm_in ((φ 26 5) - 1) 64) <|
      qg (qm_in ((φ 26 5) - 2) 64) <|
      if x1 = 47 then
        ma_join_L67 F nR nN nT gg (qm_u φ 26 5 ((φ 26 5) - 1)) x1 (φ 29 (((φ 26 5) - 1).toNatClampNeg)) (φ 29 (((φ 26 5) - 2).toNatClampNeg))
      else
        if ¬ x1 = 37 then
          ma_join_L77 F nR nN nT gg (qm_u φ 26 5 ((φ 26 5) - 1)) x1 (φ 29 (((φ 26 5) - 1).toNatClampNeg)) (φ 29 (((φ 26 5) - 2).toNatClampNeg))
        else
          ma_join_L67 F nR nN nT gg (qm_u φ 26 5 ((φ 26 5) - 1)) x1 (φ 29 (((φ 26 5) - 1).toNatClampNeg)) (φ 29 (((φ 26 5) - 2).toNatClampNeg))
    else
      some φ
set_option maxRecDepth 100000 in
theorem ma_join_L282_n (F d : Nat) (nR nN nT gg : Nat) (X : List (Nat × Nat)) (ρ : Nat → Nat → Option Nat) (hd : 0 ≤ d) (φ : qm_F) (x4 : Int32) (r : qm_F) (hs : ma_join_L282 F nR nN nT gg φ x4 = some r) : qm_Rn d 160 282 [.ref 26, .retAddr 0, .retAddr 0, .retAddr 0, .int x4] [] (cs nR nN nT gg X ρ φ) (none, cs nR nN nT gg X ρ r) := by
  have hC := qC_160
  unfold ma_join_L282 at hs
  refine qr_s hC (n := 10) (pc' := 299) (ls' := [.ref 26, .retAddr 0, .retAddr 0, .retAddr 0, .int x4]) (st' := [.int (x4 &&& (φ 26 1)), .int ((φ 26 5) - 1), .ref 29]) (h' := cs nR nN nT gg X ρ φ) rfl ?_
  obtain ⟨hq, hs⟩ := qg_s hs
  refine qr_is (h' := cs nR nN nT gg X ρ (qm_u φ 29 (((φ 26 5) - 1).toNatClampNeg) (x4 &&& (φ 26 1)))) hC rfl rfl hq rfl ?_
  have hs := Option.some.inj hs
  subst hs
  exact qr_r hC rfl rfl
set_option maxRecDepth 100000 in
theorem ma_join_L206_n (F d : Nat) (nR nN nT gg : Nat) (X : List (Nat × Nat)) (ρ : Nat → Nat → Option Nat) (hd : 0 ≤ d) (φ : qm_F) (s0 : Int32) (r : qm_F) (hs : ma_join_L206 F nR nN nT gg φ s0 = some r) : qm_Rn d 160 206 [.ref 26, .retAddr 0, .retAddr 0, .retAddr 0, .retAddr 0] [.int s0] (cs nR nN nT gg X ρ φ) (none, cs nR nN nT gg X ρ r) := by
  have hC := qC_160
  unfold ma_join_L206 at hs
  refine qr_s hC (n := 2) (pc' := 282) (ls' := [.ref 26, .retAddr 0, .retAddr 0, .retAddr 0, .int s0]) (st' := []) (h' := cs nR nN nT gg X ρ φ) rfl ?_
  exact ma_join_L282_n F d nR nN nT gg X ρ (by omega) φ s0 _ hs
set_option maxRecDepth 100000 in
theorem ma_join_L221_n (F d : Nat) (nR nN nT gg : Nat) (X : List (Nat × Nat)) (ρ : Nat → Nat → Option Nat) (hd : 0 ≤ d) (φ : qm_F) (s0 : Int32) (r : qm_F) (hs : ma_join_L221 F nR nN nT gg φ s0 = some r) : qm_Rn d 160 221 [.ref 26, .retAddr 0, .retAddr 0, .retAddr 0, .retAddr 0] [.int s0] (cs nR nN nT gg X ρ φ) (none, cs nR nN nT gg X ρ r) := by
  have hC := qC_160
  unfold ma_join_L221 at hs
  refine qr_s hC (n := 2) (pc' := 282) (ls' := [.ref 26, .retAddr 0, .retAddr 0, .retAddr 0, .int s0]) (st' := []) (h' := cs nR nN nT gg X ρ φ) rfl ?_
  exact ma_join_L282_n F d nR nN nT gg X ρ (by omega) φ s0 _ hs
set_option maxRecDepth 100000 in
theorem ma_join_L261_n (F d : Nat) (nR nN nT gg : Nat) (X : List (Nat × Nat)) (ρ : Nat → Nat → Option Nat) (hd : 0 ≤ d) (φ : qm_F) (s0 : Int32) (r : qm_F) (hs : ma_join_L261 F nR nN nT gg φ s0 = some r) : qm_Rn d 160 261 [.ref 26, .retAddr 0, .retAddr 0, .retAddr 0, .retAddr 0] [.int s0] (cs nR nN nT gg X ρ φ) (none, cs nR nN nT gg X ρ r) := by
  have hC := qC_160
  unfold ma_join_L261 at hs
  refine qr_s hC (n := 2) (pc' := 282) (ls' := [.ref 26, .retAddr 0, .retAddr 0, .retAddr 0, .int s0]) (st' := []) (h' := cs nR nN nT gg X ρ φ) rfl ?_
  exact ma_join_L282_n F d nR nN nT gg X ρ (by omega) φ s0 _ hs
set_option maxRecDepth 100000 in
theorem ma_join_L277_n (F d : Nat) (nR nN nT gg : Nat) (X : List (Nat × Nat)) (ρ : Nat → Nat → Option Nat) (hd : 0 ≤ d) (φ : qm_F) (s0 : Int32) (r : qm_F) (hs : ma_join_L277 F nR nN nT gg φ s0 = some r) : qm_Rn d 160 277 [.ref 26, .retAddr 0, .retAddr 0, .retAddr 0, .retAddr 0] [.int s0] (cs nR nN nT gg X ρ φ) (none, cs nR nN nT gg X ρ r) := by
  have hC := qC_160
  unfold ma_join_L277 at hs
  refine qr_s hC (n := 2) (pc' := 282) (ls' := [.ref 26, .retAddr 0, .retAddr 0, .retAddr 0, .int s0]) (st' := []) (h' := cs nR nN nT gg X ρ φ) rfl ?_
  exact ma_join_L282_n F d nR nN nT gg X ρ (by omega) φ s0 _ hs
set_option maxRecDepth 100000 in
theorem ma_join_L77_n (F d : Nat) (nR nN nT gg : Nat) (X : List (Nat × Nat)) (ρ : Nat → Nat → Option Nat) (hd : 0 ≤ d) (φ : qm_F) (x1 : Int32) (x2 : Int32) (x3 : Int32) (r : qm_F) (hs : ma_join_L77 F nR nN nT gg φ x1 x2 x3 = some r) : qm_Rn d 160 77 [.ref 26, .int x1, .int x2, .int x3, .retAddr 0] [] (cs nR nN nT gg X ρ φ) (none, cs nR nN nT gg X ρ r) := by
  have hC := qC_160
  unfold ma_join_L77 at hs
  refine qr_s hC (n := 3) (pc' := 81) (ls' := [.ref 26, .int x1, .int x2, .int x3, .int 0]) (st' := [.int x1]) (h' := cs nR nN nT gg X ρ φ) rfl ?_
  by_cases q0 : x1 = 37
  · rw [if_pos q0] at hs
    refine qr_sw hC (tgt := 266) rfl q0 rfl ?_
    refine qr_s hC (n := 1) (pc' := 267) (ls' := [.ref 26, .int x1, .int x2, .int x3, .int 0]) (st' := [.int x2]) (h' := cs nR nN nT gg X ρ φ) rfl ?_
    refine qr_ne1 (tgt := 274) hC rfl (by decide) rfl (fun hc => ?_) (fun hc => ?_)
    · rw [if_pos hc] at hs
      refine qr_s hC (n := 2) (pc' := 276) (ls' := [.ref 26, .int x1, .int x2, .int x3, .int 0]) (st' := [.int x2, .int x3]) (h' := cs nR nN nT gg X ρ φ) rfl ?_
      obtain ⟨hq, hs⟩ := qg_s hs
      refine qr_rm hC rfl hq ?_
      exact qr_w (a := [.ref 26, .retAddr 0, .retAddr 0, .retAddr 0, .retAddr 0]) ⟨Or.inr rfl, Or.inl rfl, Or.inl rfl, Or.inl rfl, Or.inl rfl, trivial⟩ (ma_join_L277_n F d nR nN nT gg X ρ (by omega) φ (x3 - x3 / x2 * x2) _ hs)
    · rw [if_neg hc] at hs
      refine qr_s hC (n := 2) (pc' := 277) (ls' := [.ref 26, .int x1, .int x2, .int x3, .int 0]) (st' := [.int 0]) (h' := cs nR nN nT gg X ρ φ) rfl ?_
      exact qr_w (a := [.ref 26, .retAddr 0, .retAddr 0, .retAddr 0, .retAddr 0]) ⟨Or.inr rfl, Or.inl rfl, Or.inl rfl, Or.inl rfl, Or.inl rfl, trivial⟩ (ma_join_L277_n F d nR nN nT gg X ρ (by omega) φ 0 _ hs)
  · rw [if_neg q0] at hs
    by_cases q1 : x1 = 38
    · rw [if_pos q1] at hs
      refine qr_sw hC (tgt := 188) rfl q1 rfl ?_
      refine qr_s hC (n := 5) (pc' := 282) (ls' := [.ref 26, .int x1, .int x2, .int x3, .int (x3 &&& x2)]) (st' := []) (h' := cs nR nN nT gg X ρ φ) rfl ?_
      exact qr_w (a := [.ref 26, .retAddr 0, .retAddr 0, .retAddr 0, .int (x3 &&& x2)]) ⟨Or.inr rfl, Or.inl rfl, Or.inl rfl, Or.inl rfl, Or.inr rfl, trivial⟩ (ma_join_L282_n F d nR nN nT gg X ρ (by omega) φ (x3 &&& x2) _ hs)
    · rw [if_neg q1] at hs
      by_cases q2 : x1 = 42
      · rw [if_pos q2] at hs
        refine qr_sw hC (tgt := 242) rfl q2 rfl ?_
        refine qr_s hC (n := 5) (pc' := 282) (ls' := [.ref 26, .int x1, .int x2, .int x3, .int (x3 * x2)]) (st' := []) (h' := cs nR nN nT gg X ρ φ) rfl ?_
        exact qr_w (a := [.ref 26, .retAddr 0, .retAddr 0, .retAddr 0, .int (x3 * x2)]) ⟨Or.inr rfl, Or.inl rfl, Or.inl rfl, Or.inl rfl, Or.inr rfl, trivial⟩ (ma_join_L282_n F d nR nN nT gg X ρ (by omega) φ (x3 * x2) _ hs)
      · rw [if_neg q2] at hs
        by_cases q3 : x1 = 43
        · rw [if_pos q3] at hs
          refine qr_sw hC (tgt := 226) rfl q3 rfl ?_
          refine qr_s hC (n := 5) (pc' := 282) (ls' := [.ref 26, .int x1, .int x2, .int x3, .int (x3 + x2)]) (st' := []) (h' := cs nR nN nT gg X ρ φ) rfl ?_
          exact qr_w (a := [.ref 26, .retAddr 0, .retAddr 0, .retAddr 0, .int (x3 + x2)]) ⟨Or.inr rfl, Or.inl rfl, Or.inl rfl, Or.inl rfl, Or.inr rfl, trivial⟩ (ma_join_L282_n F d nR nN nT gg X ρ (by omega) φ (x3 + x2) _ hs)
        · rw [if_neg q3] at hs
          by_cases q4 : x1 = 45
          · rw [if_pos q4] at hs
            refine qr_sw hC (tgt := 234) rfl q4 rfl ?_
            refine qr_s hC (n := 5) (pc' := 282) (ls' := [.ref 26, .int x1, .int x2, .int x3, .int (x3 - x2)]) (st' := []) (h' := cs nR nN nT gg X ρ φ) rfl ?_
            exact qr_w (a := [.ref 26, .retAddr 0, .retAddr 0, .retAddr 0, .int (x3 - x2)]) ⟨Or.inr rfl, Or.inl rfl, Or.inl rfl, Or.inl rfl, Or.inr rfl, trivial⟩ (ma_join_L282_n F d nR nN nT gg X ρ (by omega) φ (x3 - x2) _ hs)
          · rw [if_neg q4] at hs
            by_cases q5 : x1 = 47
            · rw [if_pos q5] at hs
              refine qr_sw hC (tgt := 250) rfl q5 rfl ?_
              refine qr_s hC (n := 1) (pc' := 251) (ls' := [.ref 26, .int x1, .int x2, .int x3, .int 0]) (st' := [.int x2]) (h' := cs nR nN nT gg X ρ φ) rfl ?_
              refine qr_ne1 (tgt := 258) hC rfl (by decide) rfl (fun hc => ?_) (fun hc => ?_)
              · rw [if_pos hc] at hs
                refine qr_s hC (n := 2) (pc' := 260) (ls' := [.ref 26, .int x1, .int x2, .int x3, .int 0]) (st' := [.int x2, .int x3]) (h' := cs nR nN nT gg X ρ φ) rfl ?_
                obtain ⟨hq, hs⟩ := qg_s hs
                refine qr_dv hC rfl hq ?_
                exact qr_w (a := [.ref 26, .retAddr 0, .retAddr 0, .retAddr 0, .retAddr 0]) ⟨Or.inr rfl, Or.inl rfl, Or.inl rfl, Or.inl rfl, Or.inl rfl, trivial⟩ (ma_join_L261_n F d nR nN nT gg X ρ (by omega) φ (x3 / x2) _ hs)
              · rw [if_neg hc] at hs
                refine qr_s hC (n := 2) (pc' := 261) (ls' := [.ref 26, .int x1, .int x2, .int x3, .int 0]) (st' := [.int 0]) (h' := cs nR nN nT gg X ρ φ) rfl ?_
                exact qr_w (a := [.ref 26, .retAddr 0, .retAddr 0, .retAddr 0, .retAddr 0]) ⟨Or.inr rfl, Or.inl rfl, Or.inl rfl, Or.inl rfl, Or.inl rfl, trivial⟩ (ma_join_L261_n F d nR nN nT gg X ρ (by omega) φ 0 _ hs)
            · rw [if_neg q5] at hs
              by_cases q6 : x1 = 60
              · rw [if_pos q6] at hs
                refine qr_sw hC (tgt := 211) rfl q6 rfl ?_
                refine qr_s hC (n := 2) (pc' := 213) (ls' := [.ref 26, .int x1, .int x2, .int x3, .int 0]) (st' := [.int x2, .int x3]) (h' := cs nR nN nT gg X ρ φ) rfl ?_
                refine qr_ge2 (tgt := 220) hC rfl (by decide) rfl (fun hc => ?_) (fun hc => ?_)
                · rw [if_pos hc] at hs
                  refine qr_s hC (n := 1) (pc' := 221) (ls' := [.ref 26, .int x1, .int x2, .int x3, .int 0]) (st' := [.int 0]) (h' := cs nR nN nT gg X ρ φ) rfl ?_
                  exact qr_w (a := [.ref 26, .retAddr 0, .retAddr 0, .retAddr 0, .retAddr 0]) ⟨Or.inr rfl, Or.inl rfl, Or.inl rfl, Or.inl rfl, Or.inl rfl, trivial⟩ (ma_join_L221_n F d nR nN nT gg X ρ (by omega) φ 0 _ hs)
                · rw [if_neg hc] at hs
                  refine qr_s hC (n := 2) (pc' := 221) (ls' := [.ref 26, .int x1, .int x2, .int x3, .int 0]) (st' := [.int 1]) (h' := cs nR nN nT gg X ρ φ) rfl ?_
                  exact qr_w (a := [.ref 26, .retAddr 0, .retAddr 0, .retAddr 0, .retAddr 0]) ⟨Or.inr rfl, Or.inl rfl, Or.inl rfl, Or.inl rfl, Or.inl rfl, trivial⟩ (ma_join_L221_n F d nR nN nT gg X ρ (by omega) φ 1 _ hs)
              · rw [if_neg q6] at hs
                by_cases q7 : x1 = 61
                · rw [if_pos q7] at hs
                  refine qr_sw hC (tgt := 196) rfl q7 rfl ?_
                  refine qr_s hC (n := 2) (pc' := 198) (ls' := [.ref 26, .int x1, .int x2, .int x3, .int 0]) (st' := [.int x2, .int x3]) (h' := cs nR nN nT gg X ρ φ) rfl ?_
                  refine qr_ne2 (tgt := 205) hC rfl (by decide) rfl (fun hc => ?_) (fun hc => ?_)
                  · rw [if_pos hc] at hs
                    refine qr_s hC (n := 1) (pc' := 206) (ls' := [.ref 26, .int x1, .int x2, .int x3, .int 0]) (st' := [.int 0]) (h' := cs nR nN nT gg X ρ φ) rfl ?_
                    exact qr_w (a := [.ref 26, .retAddr 0, .retAddr 0, .retAddr 0, .retAddr 0]) ⟨Or.inr rfl, Or.inl rfl, Or.inl rfl, Or.inl rfl, Or.inl rfl, trivial⟩ (ma_join_L206_n F d nR nN nT gg X ρ (by omega) φ 0 _ hs)
                  · rw [if_neg hc] at hs
                    refine qr_s hC (n := 2) (pc' := 206) (ls' := [.ref 26, .int x1, .int x2, .int x3, .int 0]) (st' := [.int 1]) (h' := cs nR nN nT gg X ρ φ) rfl ?_
                    exact qr_w (a := [.ref 26, .retAddr 0, .retAddr 0, .retAddr 0, .retAddr 0]) ⟨Or.inr rfl, Or.inl rfl, Or.inl rfl, Or.inl rfl, Or.inl rfl, trivial⟩ (ma_join_L206_n F d nR nN nT gg X ρ (by omega) φ 1 _ hs)
                · rw [if_neg q7] at hs
                  by_cases q8 : x1 = 94
                  · rw [if_pos q8] at hs
                    refine qr_sw hC (tgt := 180) rfl q8 rfl ?_
                    refine qr_s hC (n := 5) (pc' := 282) (ls' := [.ref 26, .int x1, .int x2, .int x3, .int (x3 ^^^ x2)]) (st' := []) (h' := cs nR nN nT gg X ρ φ) rfl ?_
                    exact qr_w (a := [.ref 26, .retAddr 0, .retAddr 0, .retAddr 0, .int (x3 ^^^ x2)]) ⟨Or.inr rfl, Or.inl rfl, Or.inl rfl, Or.inl rfl, Or.inr rfl, trivial⟩ (ma_join_L282_n F d nR nN nT gg X ρ (by omega) φ (x3 ^^^ x2) _ hs)
                  · rw [if_neg q8] at hs
                    by_cases q9 : x1 = 124
                    · rw [if_pos q9] at hs
                      refine qr_sw hC (tgt := 172) rfl q9 rfl ?_
                      refine qr_s hC (n := 5) (pc' := 282) (ls' := [.ref 26, .int x1, .int x2, .int x3, .int (x3 ||| x2)]) (st' := []) (h' := cs nR nN nT gg X ρ φ) rfl ?_
                      exact qr_w (a := [.ref 26, .retAddr 0, .retAddr 0, .retAddr 0, .int (x3 ||| x2)]) ⟨Or.inr rfl, Or.inl rfl, Or.inl rfl, Or.inl rfl, Or.inr rfl, trivial⟩ (ma_join_L282_n F d nR nN nT gg X ρ (by omega) φ (x3 ||| x2) _ hs)
                    · rw [if_neg q9] at hs
                      have z0 : Int32.toInt x1 ≠ 37 := fun z => q0 (Int32.toInt_inj.mp (z.trans (by decide)))
                      have z1 : Int32.toInt x1 ≠ 38 := fun z => q1 (Int32.toInt_inj.mp (z.trans (by decide)))
                      have z2 : Int32.toInt x1 ≠ 42 := fun z => q2 (Int32.toInt_inj.mp (z.trans (by decide)))
                      have z3 : Int32.toInt x1 ≠ 43 := fun z => q3 (Int32.toInt_inj.mp (z.trans (by decide)))
                      have z4 : Int32.toInt x1 ≠ 45 := fun z => q4 (Int32.toInt_inj.mp (z.trans (by decide)))
                      have z5 : Int32.toInt x1 ≠ 47 := fun z => q5 (Int32.toInt_inj.mp (z.trans (by decide)))
                      have z6 : Int32.toInt x1 ≠ 60 := fun z => q6 (Int32.toInt_inj.mp (z.trans (by decide)))
                      have z7 : Int32.toInt x1 ≠ 61 := fun z => q7 (Int32.toInt_inj.mp (z.trans (by decide)))
                      have z8 : Int32.toInt x1 ≠ 94 := fun z => q8 (Int32.toInt_inj.mp (z.trans (by decide)))
                      have z9 : Int32.toInt x1 ≠ 124 := fun z => q9 (Int32.toInt_inj.mp (z.trans (by decide)))
                      refine qr_lD (off := 201) (tgt := 282) hC rfl (by decide) ?_ (by decide) rfl ?_
                      · simp only [Op.lookupswitch.offset]
                        rw [if_neg (Ne.symm z0)]
                        rw [if_neg (Ne.symm z1)]
                        rw [if_neg (Ne.symm z2)]
                        rw [if_neg (Ne.symm z3)]
                        rw [if_neg (Ne.symm z4)]
                        rw [if_neg (Ne.symm z5)]
                        rw [if_neg (Ne.symm z6)]
                        rw [if_neg (Ne.symm z7)]
                        rw [if_neg (Ne.symm z8)]
                        rw [if_neg (Ne.symm z9)]
                      exact qr_w (a := [.ref 26, .retAddr 0, .retAddr 0, .retAddr 0, .int 0]) ⟨Or.inr rfl, Or.inl rfl, Or.inl rfl, Or.inl rfl, Or.inr rfl, trivial⟩ (ma_join_L282_n F d nR nN nT gg X ρ (by omega) φ 0 _ hs)
set_option maxRecDepth 100000 in
theorem ma_join_L67_n (F d : Nat) (nR nN nT gg : Nat) (X : List (Nat × Nat)) (ρ : Nat → Nat → Option Nat) (hd : 0 ≤ d) (φ : qm_F) (x1 : Int32) (x2 : Int32) (x3 : Int32) (r : qm_F) (hs : ma_join_L67 F nR nN nT gg φ x1 x2 x3 = some r) : qm_Rn d 160 67 [.ref 26, .int x1, .int x2, .int x3, .retAddr 0] [] (cs nR nN nT gg X ρ φ) (none, cs nR nN nT gg X ρ r) := by
  have hC := qC_160
  unfold ma_join_L67 at hs
  refine qr_s hC (n := 1) (pc' := 68) (ls' := [.ref 26, .int x1, .int x2, .int x3, .retAddr 0]) (st' := [.int x2]) (h' := cs nR nN nT gg X ρ φ) rfl ?_
  refine qr_ne1 (tgt := 77) hC rfl (by decide) rfl (fun hc => ?_) (fun hc => ?_)
  · rw [if_pos hc] at hs
    exact ma_join_L77_n F d nR nN nT gg X ρ (by omega) φ x1 x2 x3 _ hs
  · rw [if_neg hc] at hs
    refine qr_s hC (n := 3) (pc' := 76) (ls' := [.ref 26, .int x1, .int x2, .int x3, .retAddr 0]) (st' := []) (h' := cs nR nN nT gg X ρ (qm_u φ 26 9 3)) rfl ?_
    have hs := Option.some.inj hs
    subst hs
    exact qr_r hC rfl rfl
set_option maxRecDepth 100000 in
theorem ma_join_n (F d : Nat) (nR nN nT gg : Nat) (X : List (Nat × Nat)) (ρ : Nat → Nat → Option Nat) (φ : qm_F) (x1 : Int32) (r : qm_F) (hd : 0 ≤ d) (hs : ma_join F nR nN nT gg φ x1 = some r) : qm_Rn d 160 0 [.ref 26, .int x1, .retAddr 0, .retAddr 0, .retAddr 0] [] (cs nR nN nT gg X ρ φ) (none, cs nR nN nT gg X ρ r) := by
  have hC := qC_160
  unfold ma_join at hs
  refine qr_s hC (n := 3) (pc' := 5) (ls' := [.ref 26, .int x1, .retAddr 0, .retAddr 0, .retAddr 0]) (st' := [.int 2, .int (φ 26 5)]) (h' := cs nR nN nT gg X ρ φ) rfl ?_
  refine qr_lt2 (tgt := 20) hC rfl (by decide) rfl (fun hc => ?_) (fun hc => ?_)
  · rw [if_pos hc] at hs
    have hs := Option.some.inj hs
    subst hs
    exact qr_r hC rfl rfl
  · rw [if_neg hc] at hs
    refine qr_s hC (n := 5) (pc' := 17) (ls' := [.ref 26, .int x1, .retAddr 0, .retAddr 0, .retAddr 0]) (st' := [.int 64, .int (φ 26 5)]) (h' := cs nR nN nT gg X ρ φ) rfl ?_
    refine qr_le2 (tgt := 21) hC rfl (by decide) rfl (fun hc => ?_) (fun hc => ?_)
    · rw [if_pos hc] at hs
      refine qr_s hC (n := 6) (pc' := 31) (ls' := [.ref 26, .int x1, .retAddr 0, .retAddr 0, .retAddr 0]) (st' := [.int ((φ 26 5) - 1), .ref 29]) (h' := cs nR nN nT gg X ρ φ) rfl ?_
      obtain ⟨hq, hs⟩ := qg_s hs
      refine qr_ia (v := φ 29 (((φ 26 5) - 1).toNatClampNeg)) hC rfl rfl hq rfl ?_
      refine qr_s hC (n := 7) (pc' := 43) (ls' := [.ref 26, .int x1, .int (φ 29 (((φ 26 5) - 1).toNatClampNeg)), .retAddr 0, .retAddr 0]) (st' := [.int ((φ 26 5) - 2), .ref 29]) (h' := cs nR nN nT gg X ρ φ) rfl ?_
      obtain ⟨hq, hs⟩ := qg_s hs
      refine qr_ia (v := φ 29 (((φ 26 5) - 2).toNatClampNeg)) hC rfl rfl hq rfl ?_
      refine qr_s hC (n := 9) (pc' := 58) (ls' := [.ref 26, .int x1, .int (φ 29 (((φ 26 5) - 1).toNatClampNeg)), .int (φ 29 (((φ 26 5) - 2).toNatClampNeg)), .retAddr 0]) (st' := [.int 47, .int x1]) (h' := cs nR nN nT gg X ρ (qm_u φ 26 5 ((φ 26 5) - 1))) rfl ?_
      refine qr_eq2 (tgt := 67) hC rfl (by decide) rfl (fun hc => ?_) (fun hc => ?_)
      · rw [if_pos hc] at hs
        exact ma_join_L67_n F d nR nN nT gg X ρ (by omega) (qm_u φ 26 5 ((φ 26 5) - 1)) x1 (φ 29 (((φ 26 5) - 1).toNatClampNeg)) (φ 29 (((φ 26 5) - 2).toNatClampNeg)) _ hs
      · rw [if_neg hc] at hs
        refine qr_s hC (n := 2) (pc' := 64) (ls' := [.ref 26, .int x1, .int (φ 29 (((φ 26 5) - 1).toNatClampNeg)), .int (φ 29 (((φ 26 5) - 2).toNatClampNeg)), .retAddr 0]) (st' := [.int 37, .int x1]) (h' := cs nR nN nT gg X ρ (qm_u φ 26 5 ((φ 26 5) - 1))) rfl ?_
        refine qr_ne2 (tgt := 77) hC rfl (by decide) rfl (fun hc => ?_) (fun hc => ?_)
        · rw [if_pos hc] at hs
          exact ma_join_L77_n F d nR nN nT gg X ρ (by omega) (qm_u φ 26 5 ((φ 26 5) - 1)) x1 (φ 29 (((φ 26 5) - 1).toNatClampNeg)) (φ 29 (((φ 26 5) - 2).toNatClampNeg)) _ hs
        · rw [if_neg hc] at hs
          exact ma_join_L67_n F d nR nN nT gg X ρ (by omega) (qm_u φ 26 5 ((φ 26 5) - 1)) x1 (φ 29 (((φ 26 5) - 1).toNatClampNeg)) (φ 29 (((φ 26 5) - 2).toNatClampNeg)) _ hs
    · rw [if_neg hc] at hs
      have hs := Option.some.inj hs
      subst hs
      exact qr_r hC rfl rfl
/-- SketchFiller$Machine.perform(III)V -/
def ma_perform_L104 (F : Nat) (nR nN nT gg : Nat) (φ : qm_F) (s0 : Int32) : Option qm_F :=
  qb1 (ma_push F nR nN nT gg φ s0) fun φ1 =>
  some φ1
def ma_perform_L103 (F : Nat) (nR nN nT gg : Nat) (φ : qm_F) : Option qm_F :=
  ma_perform_L104 F nR nN nT gg φ 0
def ma_perform_L219 (F : Nat) (nR nN nT gg : Nat) (φ : qm_F) (s0 : Int32) (s1 : Int32) : Option qm_F :=
  qb1 (ma_beginRounds F nR nN nT gg φ s1 s0) fun φ1 =>
  some φ1
def ma_perform (F : Nat) (nR nN nT gg : Nat) (φ : qm_F) (x1 : Int32) (x2 : Int32) (x3 : Int32) : Option qm_F :=
  if x1 = 1 then
    qb1 (ma_push F nR nN nT gg φ x2) fun φ1 =>
    some φ1
  else
  if x1 = 2 then
    if x2 < 0 then
      ma_perform_L103 F nR nN nT gg φ
    else
      if 15 ≤ x2 then
        ma_perform_L103 F nR nN nT gg φ
      else
        qg (qm_in x2 15) <|
        ma_perform_L104 F nR nN nT gg φ (φ 27 x2.toNatClampNeg)
  else
  if x1 = 3 then
    qb2 (ma_pop F nR nN nT gg φ) fun y1 φ2 =>
    qb1 (ma_store F nR nN nT gg φ2 x2 y1) fun φ3 =>
    some φ3
  else
  if x1 = 4 then
    qb2 (ma_pop F nR nN nT gg φ) fun y2 φ4 =>
    qb1 (ma_push F nR nN nT gg φ4 (-y2)) fun φ5 =>
    some φ5
  else
  if x1 = 5 then
    qb2 (ma_pop F nR nN nT gg φ) fun y3 φ6 =>
    qb1 (ma_push F nR nN nT gg φ6 (y3 ^^^ (-1))) fun φ7 =>
    some φ7
  else
  if x1 = 6 then
    qb1 (ma_beginStep F nR nN nT gg φ) fun φ8 =>
    some φ8
  else
  if x1 = 7 then
    some (qm_u φ 26 6 x3)
  else
  if x1 = 8 then
    qb2 (ma_pop F nR nN nT gg φ) fun y4 φ9 =>
    if ¬ y4 = 0 then
      some (qm_u φ9 26 6 (φ9 26 6))
    else
      some (qm_u φ9 26 6 x3)
  else
  if x1 = 9 then
    qb1 (ma_beginRounds F nR nN nT gg φ x2 x3) fun φ10 =>
    some φ10
  else
  if x1 = 10 then
    qb1 (ma_goRoundAgain F nR nN nT gg φ x2 x3) fun φ11 =>
    some φ11
  else
  if x1 = 11 then
    if ¬ (φ 26 7) = 0 then
      ma_perform_L219 F nR nN nT gg φ (φ 26 7) x2
    else
      ma_perform_L219 F nR nN nT gg φ x3 x2
  else
  if x1 = 12 then
    qb2 (ma_pop F nR nN nT gg φ) fun y5 φ12 =>
    qb1 (ma_testWhile F nR nN nT gg φ12 x2 x3 y5) fun φ13 =>
    some φ13
  else
  if x1 = 13 then
    qb2 (ma_pop F nR nN nT gg φ) fun y6 φ14 =>
    if ¬ y6 = 0 then
      some (qm_u φ14 26 9 (-1))
    else
      some (qm_u φ14 26 9 2)
  else
  if x1 = 14 then
    qb2 (ma_pop F nR nN nT gg φ) fun y7 φ15 =>
    if ¬ y7 = 0 then
      some (qm_u φ15 26 9 0)
    else
      some (qm_u φ15 26 9 1)
  else
  qb1 (ma_join F nR nN nT gg φ x1) fun φ16 =>
  some φ16
set_option maxRecDepth 100000 in
theorem ma_perform_L104_n (F d : Nat) (nR nN nT gg : Nat) (X : List (Nat × Nat)) (ρ : Nat → Nat → Option Nat) (hd : 1 ≤ d) (φ : qm_F) (s0 : Int32) (r : qm_F) (hs : ma_perform_L104 F nR nN nT gg φ s0 = some r) : qm_Rn d 152 104 [.retAddr 0, .retAddr 0, .retAddr 0, .retAddr 0] [.int s0, .ref 26] (cs nR nN nT gg X ρ φ) (none, cs nR nN nT gg X ρ r) := by
  obtain ⟨d, rfl⟩ : ∃ e, d = e + 1 := ⟨d - 1, by omega⟩
  have hC := qC_152
  unfold ma_perform_L104 at hs
  obtain ⟨φ1, hy, hs⟩ := qb1_s hs
  refine qr_c (j := 153) (as := [.ref 26, .int s0]) (rest := []) (v := none) (h1 := cs nR nN nT gg X ρ φ1) hC rfl rfl qC_153 rfl rfl (ma_push_n F d nR nN nT gg X ρ φ s0 _ (by omega) hy) ?_
  show qm_Rn (d + 1) 152 107 [.retAddr 0, .retAddr 0, .retAddr 0, .retAddr 0] [] (cs nR nN nT gg X ρ φ1) _
  refine qr_s hC (n := 1) (pc' := 281) (ls' := [.retAddr 0, .retAddr 0, .retAddr 0, .retAddr 0]) (st' := []) (h' := cs nR nN nT gg X ρ φ1) rfl ?_
  have hs := Option.some.inj hs
  subst hs
  exact qr_r hC rfl rfl
set_option maxRecDepth 100000 in
theorem ma_perform_L103_n (F d : Nat) (nR nN nT gg : Nat) (X : List (Nat × Nat)) (ρ : Nat → Nat → Option Nat) (hd : 1 ≤ d) (φ : qm_F) (r : qm_F) (hs : ma_perform_L103 F nR nN nT gg φ = some r) : qm_Rn d 152 103 [.retAddr 0, .retAddr 0, .retAddr 0, .retAddr 0] [.ref 26] (cs nR nN nT gg X ρ φ) (none, cs nR nN nT gg X ρ r) := by
  obtain ⟨d, rfl⟩ : ∃ e, d = e + 1 := ⟨d - 1, by omega⟩
  have hC := qC_152
  unfold ma_perform_L103 at hs
  refine qr_s hC (n := 1) (pc' := 104) (ls' := [.retAddr 0, .retAddr 0, .retAddr 0, .retAddr 0]) (st' := [.int 0, .ref 26]) (h' := cs nR nN nT gg X ρ φ) rfl ?_
  exact ma_perform_L104_n F (d + 1) nR nN nT gg X ρ (by omega) φ 0 _ hs
set_option maxRecDepth 100000 in
theorem ma_perform_L219_n (F d : Nat) (nR nN nT gg : Nat) (X : List (Nat × Nat)) (ρ : Nat → Nat → Option Nat) (hd : 1 ≤ d) (φ : qm_F) (s0 : Int32) (s1 : Int32) (r : qm_F) (hs : ma_perform_L219 F nR nN nT gg φ s0 s1 = some r) : qm_Rn d 152 219 [.retAddr 0, .retAddr 0, .retAddr 0, .retAddr 0] [.int s0, .int s1, .ref 26] (cs nR nN nT gg X ρ φ) (none, cs nR nN nT gg X ρ r) := by
  obtain ⟨d, rfl⟩ : ∃ e, d = e + 1 := ⟨d - 1, by omega⟩
  have hC := qC_152
  unfold ma_perform_L219 at hs
  obtain ⟨φ1, hy, hs⟩ := qb1_s hs
  refine qr_c (j := 157) (as := [.ref 26, .int s1, .int s0]) (rest := []) (v := none) (h1 := cs nR nN nT gg X ρ φ1) hC rfl rfl qC_157 rfl rfl (ma_beginRounds_n F d nR nN nT gg X ρ φ s1 s0 _ (by omega) hy) ?_
  show qm_Rn (d + 1) 152 222 [.retAddr 0, .retAddr 0, .retAddr 0, .retAddr 0] [] (cs nR nN nT gg X ρ φ1) _
  refine qr_s hC (n := 1) (pc' := 281) (ls' := [.retAddr 0, .retAddr 0, .retAddr 0, .retAddr 0]) (st' := []) (h' := cs nR nN nT gg X ρ φ1) rfl ?_
  have hs := Option.some.inj hs
  subst hs
  exact qr_r hC rfl rfl
set_option maxRecDepth 100000 in
theorem ma_perform_n (F d : Nat) (nR nN nT gg : Nat) (X : List (Nat × Nat)) (ρ : Nat → Nat → Option Nat) (φ : qm_F) (x1 : Int32) (x2 : Int32) (x3 : Int32) (r : qm_F) (hd : 1 ≤ d) (hs : ma_perform F nR nN nT gg φ x1 x2 x3 = some r) : qm_Rn d 152 0 [.ref 26, .int x1, .int x2, .int x3] [] (cs nR nN nT gg X ρ φ) (none, cs nR nN nT gg X ρ r) := by
  obtain ⟨d, rfl⟩ : ∃ e, d = e + 1 := ⟨d - 1, by omega⟩
  have hC := qC_152
  unfold ma_perform at hs
  refine qr_s hC (n := 1) (pc' := 1) (ls' := [.ref 26, .int x1, .int x2, .int x3]) (st' := [.int x1]) (h' := cs nR nN nT gg X ρ φ) rfl ?_
  by_cases q0 : x1 = 1
  · rw [if_pos q0] at hs
    refine qr_sw hC (tgt := 72) rfl q0 rfl ?_
    refine qr_s hC (n := 2) (pc' := 74) (ls' := [.ref 26, .int x1, .int x2, .int x3]) (st' := [.int x2, .ref 26]) (h' := cs nR nN nT gg X ρ φ) rfl ?_
    obtain ⟨φ1, hy, hs⟩ := qb1_s hs
    refine qr_c (j := 153) (as := [.ref 26, .int x2]) (rest := []) (v := none) (h1 := cs nR nN nT gg X ρ φ1) hC rfl rfl qC_153 rfl rfl (ma_push_n F d nR nN nT gg X ρ φ x2 _ (by omega) hy) ?_
    show qm_Rn (d + 1) 152 77 [.ref 26, .int x1, .int x2, .int x3] [] (cs nR nN nT gg X ρ φ1) _
    refine qr_s hC (n := 1) (pc' := 281) (ls' := [.ref 26, .int x1, .int x2, .int x3]) (st' := []) (h' := cs nR nN nT gg X ρ φ1) rfl ?_
    have hs := Option.some.inj hs
    subst hs
    exact qr_r hC rfl rfl
  · rw [if_neg q0] at hs
    by_cases q1 : x1 = 2
    · rw [if_pos q1] at hs
      refine qr_sw hC (tgt := 80) rfl q1 rfl ?_
      refine qr_s hC (n := 2) (pc' := 82) (ls' := [.ref 26, .int x1, .int x2, .int x3]) (st' := [.int x2, .ref 26]) (h' := cs nR nN nT gg X ρ φ) rfl ?_
      refine qr_lt1 (tgt := 103) hC rfl (by decide) rfl (fun hc => ?_) (fun hc => ?_)
      · rw [if_pos hc] at hs
        exact qr_w (a := [.retAddr 0, .retAddr 0, .retAddr 0, .retAddr 0]) ⟨Or.inl rfl, Or.inl rfl, Or.inl rfl, Or.inl rfl, trivial⟩ (ma_perform_L103_n F (d + 1) nR nN nT gg X ρ (by omega) φ _ hs)
      · rw [if_neg hc] at hs
        refine qr_s hC (n := 4) (pc' := 91) (ls' := [.ref 26, .int x1, .int x2, .int x3]) (st' := [.int 15, .int x2, .ref 26]) (h' := cs nR nN nT gg X ρ φ) rfl ?_
        refine qr_ge2 (tgt := 103) hC rfl (by decide) rfl (fun hc => ?_) (fun hc => ?_)
        · rw [if_pos hc] at hs
          exact qr_w (a := [.retAddr 0, .retAddr 0, .retAddr 0, .retAddr 0]) ⟨Or.inl rfl, Or.inl rfl, Or.inl rfl, Or.inl rfl, trivial⟩ (ma_perform_L103_n F (d + 1) nR nN nT gg X ρ (by omega) φ _ hs)
        · rw [if_neg hc] at hs
          refine qr_s hC (n := 3) (pc' := 99) (ls' := [.ref 26, .int x1, .int x2, .int x3]) (st' := [.int x2, .ref 27, .ref 26]) (h' := cs nR nN nT gg X ρ φ) rfl ?_
          obtain ⟨hq, hs⟩ := qg_s hs
          refine qr_ia (v := φ 27 x2.toNatClampNeg) hC rfl rfl hq rfl ?_
          refine qr_s hC (n := 1) (pc' := 104) (ls' := [.ref 26, .int x1, .int x2, .int x3]) (st' := [.int (φ 27 x2.toNatClampNeg), .ref 26]) (h' := cs nR nN nT gg X ρ φ) rfl ?_
          exact qr_w (a := [.retAddr 0, .retAddr 0, .retAddr 0, .retAddr 0]) ⟨Or.inl rfl, Or.inl rfl, Or.inl rfl, Or.inl rfl, trivial⟩ (ma_perform_L104_n F (d + 1) nR nN nT gg X ρ (by omega) φ (φ 27 x2.toNatClampNeg) _ hs)
    · rw [if_neg q1] at hs
      by_cases q2 : x1 = 3
      · rw [if_pos q2] at hs
        refine qr_sw hC (tgt := 110) rfl q2 rfl ?_
        refine qr_s hC (n := 3) (pc' := 113) (ls' := [.ref 26, .int x1, .int x2, .int x3]) (st' := [.ref 26, .int x2, .ref 26]) (h' := cs nR nN nT gg X ρ φ) rfl ?_
        obtain ⟨y1, φ2, hy, hs⟩ := qb2_s hs
        refine qr_c (j := 154) (as := [.ref 26]) (rest := [.int x2, .ref 26]) (v := some (.int y1)) (h1 := cs nR nN nT gg X ρ φ2) hC rfl rfl qC_154 rfl rfl (ma_pop_n F d nR nN nT gg X ρ φ _ (by omega) hy) ?_
        show qm_Rn (d + 1) 152 116 [.ref 26, .int x1, .int x2, .int x3] [.int y1, .int x2, .ref 26] (cs nR nN nT gg X ρ φ2) _
        obtain ⟨φ3, hy, hs⟩ := qb1_s hs
        refine qr_c (j := 155) (as := [.ref 26, .int x2, .int y1]) (rest := []) (v := none) (h1 := cs nR nN nT gg X ρ φ3) hC rfl rfl qC_155 rfl rfl (ma_store_n F d nR nN nT gg X ρ φ2 x2 y1 _ (by omega) hy) ?_
        show qm_Rn (d + 1) 152 119 [.ref 26, .int x1, .int x2, .int x3] [] (cs nR nN nT gg X ρ φ3) _
        refine qr_s hC (n := 1) (pc' := 281) (ls' := [.ref 26, .int x1, .int x2, .int x3]) (st' := []) (h' := cs nR nN nT gg X ρ φ3) rfl ?_
        have hs := Option.some.inj hs
        subst hs
        exact qr_r hC rfl rfl
      · rw [if_neg q2] at hs
        by_cases q3 : x1 = 4
        · rw [if_pos q3] at hs
          refine qr_sw hC (tgt := 122) rfl q3 rfl ?_
          refine qr_s hC (n := 2) (pc' := 124) (ls' := [.ref 26, .int x1, .int x2, .int x3]) (st' := [.ref 26, .ref 26]) (h' := cs nR nN nT gg X ρ φ) rfl ?_
          obtain ⟨y2, φ4, hy, hs⟩ := qb2_s hs
          refine qr_c (j := 154) (as := [.ref 26]) (rest := [.ref 26]) (v := some (.int y2)) (h1 := cs nR nN nT gg X ρ φ4) hC rfl rfl qC_154 rfl rfl (ma_pop_n F d nR nN nT gg X ρ φ _ (by omega) hy) ?_
          show qm_Rn (d + 1) 152 127 [.ref 26, .int x1, .int x2, .int x3] [.int y2, .ref 26] (cs nR nN nT gg X ρ φ4) _
          refine qr_s hC (n := 1) (pc' := 128) (ls' := [.ref 26, .int x1, .int x2, .int x3]) (st' := [.int (-y2), .ref 26]) (h' := cs nR nN nT gg X ρ φ4) rfl ?_
          obtain ⟨φ5, hy, hs⟩ := qb1_s hs
          refine qr_c (j := 153) (as := [.ref 26, .int (-y2)]) (rest := []) (v := none) (h1 := cs nR nN nT gg X ρ φ5) hC rfl rfl qC_153 rfl rfl (ma_push_n F d nR nN nT gg X ρ φ4 (-y2) _ (by omega) hy) ?_
          show qm_Rn (d + 1) 152 131 [.ref 26, .int x1, .int x2, .int x3] [] (cs nR nN nT gg X ρ φ5) _
          refine qr_s hC (n := 1) (pc' := 281) (ls' := [.ref 26, .int x1, .int x2, .int x3]) (st' := []) (h' := cs nR nN nT gg X ρ φ5) rfl ?_
          have hs := Option.some.inj hs
          subst hs
          exact qr_r hC rfl rfl
        · rw [if_neg q3] at hs
          by_cases q4 : x1 = 5
          · rw [if_pos q4] at hs
            refine qr_sw hC (tgt := 134) rfl q4 rfl ?_
            refine qr_s hC (n := 2) (pc' := 136) (ls' := [.ref 26, .int x1, .int x2, .int x3]) (st' := [.ref 26, .ref 26]) (h' := cs nR nN nT gg X ρ φ) rfl ?_
            obtain ⟨y3, φ6, hy, hs⟩ := qb2_s hs
            refine qr_c (j := 154) (as := [.ref 26]) (rest := [.ref 26]) (v := some (.int y3)) (h1 := cs nR nN nT gg X ρ φ6) hC rfl rfl qC_154 rfl rfl (ma_pop_n F d nR nN nT gg X ρ φ _ (by omega) hy) ?_
            show qm_Rn (d + 1) 152 139 [.ref 26, .int x1, .int x2, .int x3] [.int y3, .ref 26] (cs nR nN nT gg X ρ φ6) _
            refine qr_s hC (n := 2) (pc' := 141) (ls' := [.ref 26, .int x1, .int x2, .int x3]) (st' := [.int (y3 ^^^ (-1)), .ref 26]) (h' := cs nR nN nT gg X ρ φ6) rfl ?_
            obtain ⟨φ7, hy, hs⟩ := qb1_s hs
            refine qr_c (j := 153) (as := [.ref 26, .int (y3 ^^^ (-1))]) (rest := []) (v := none) (h1 := cs nR nN nT gg X ρ φ7) hC rfl rfl qC_153 rfl rfl (ma_push_n F d nR nN nT gg X ρ φ6 (y3 ^^^ (-1)) _ (by omega) hy) ?_
            show qm_Rn (d + 1) 152 144 [.ref 26, .int x1, .int x2, .int x3] [] (cs nR nN nT gg X ρ φ7) _
            refine qr_s hC (n := 1) (pc' := 281) (ls' := [.ref 26, .int x1, .int x2, .int x3]) (st' := []) (h' := cs nR nN nT gg X ρ φ7) rfl ?_
            have hs := Option.some.inj hs
            subst hs
            exact qr_r hC rfl rfl
          · rw [if_neg q4] at hs
            by_cases q5 : x1 = 6
            · rw [if_pos q5] at hs
              refine qr_sw hC (tgt := 147) rfl q5 rfl ?_
              refine qr_s hC (n := 1) (pc' := 148) (ls' := [.ref 26, .int x1, .int x2, .int x3]) (st' := [.ref 26]) (h' := cs nR nN nT gg X ρ φ) rfl ?_
              obtain ⟨φ8, hy, hs⟩ := qb1_s hs
              refine qr_c (j := 156) (as := [.ref 26]) (rest := []) (v := none) (h1 := cs nR nN nT gg X ρ φ8) hC rfl rfl qC_156 rfl rfl (ma_beginStep_n F d nR nN nT gg X ρ φ _ (by omega) hy) ?_
              show qm_Rn (d + 1) 152 151 [.ref 26, .int x1, .int x2, .int x3] [] (cs nR nN nT gg X ρ φ8) _
              refine qr_s hC (n := 1) (pc' := 281) (ls' := [.ref 26, .int x1, .int x2, .int x3]) (st' := []) (h' := cs nR nN nT gg X ρ φ8) rfl ?_
              have hs := Option.some.inj hs
              subst hs
              exact qr_r hC rfl rfl
            · rw [if_neg q5] at hs
              by_cases q6 : x1 = 7
              · rw [if_pos q6] at hs
                refine qr_sw hC (tgt := 154) rfl q6 rfl ?_
                refine qr_s hC (n := 4) (pc' := 281) (ls' := [.ref 26, .int x1, .int x2, .int x3]) (st' := []) (h' := cs nR nN nT gg X ρ (qm_u φ 26 6 x3)) rfl ?_
                have hs := Option.some.inj hs
                subst hs
                exact qr_r hC rfl rfl
              · rw [if_neg q6] at hs
                by_cases q7 : x1 = 8
                · rw [if_pos q7] at hs
                  refine qr_sw hC (tgt := 162) rfl q7 rfl ?_
                  refine qr_s hC (n := 2) (pc' := 164) (ls' := [.ref 26, .int x1, .int x2, .int x3]) (st' := [.ref 26, .ref 26]) (h' := cs nR nN nT gg X ρ φ) rfl ?_
                  obtain ⟨y4, φ9, hy, hs⟩ := qb2_s hs
                  refine qr_c (j := 154) (as := [.ref 26]) (rest := [.ref 26]) (v := some (.int y4)) (h1 := cs nR nN nT gg X ρ φ9) hC rfl rfl qC_154 rfl rfl (ma_pop_n F d nR nN nT gg X ρ φ _ (by omega) hy) ?_
                  show qm_Rn (d + 1) 152 167 [.ref 26, .int x1, .int x2, .int x3] [.int y4, .ref 26] (cs nR nN nT gg X ρ φ9) _
                  refine qr_ne1 (tgt := 174) hC rfl (by decide) rfl (fun hc => ?_) (fun hc => ?_)
                  · rw [if_pos hc] at hs
                    refine qr_s hC (n := 4) (pc' := 281) (ls' := [.ref 26, .int x1, .int x2, .int x3]) (st' := []) (h' := cs nR nN nT gg X ρ (qm_u φ9 26 6 (φ9 26 6))) rfl ?_
                    have hs := Option.some.inj hs
                    subst hs
                    exact qr_r hC rfl rfl
                  · rw [if_neg hc] at hs
                    refine qr_s hC (n := 4) (pc' := 281) (ls' := [.ref 26, .int x1, .int x2, .int x3]) (st' := []) (h' := cs nR nN nT gg X ρ (qm_u φ9 26 6 x3)) rfl ?_
                    have hs := Option.some.inj hs
                    subst hs
                    exact qr_r hC rfl rfl
                · rw [if_neg q7] at hs
                  by_cases q8 : x1 = 9
                  · rw [if_pos q8] at hs
                    refine qr_sw hC (tgt := 184) rfl q8 rfl ?_
                    refine qr_s hC (n := 3) (pc' := 187) (ls' := [.ref 26, .int x1, .int x2, .int x3]) (st' := [.int x3, .int x2, .ref 26]) (h' := cs nR nN nT gg X ρ φ) rfl ?_
                    obtain ⟨φ10, hy, hs⟩ := qb1_s hs
                    refine qr_c (j := 157) (as := [.ref 26, .int x2, .int x3]) (rest := []) (v := none) (h1 := cs nR nN nT gg X ρ φ10) hC rfl rfl qC_157 rfl rfl (ma_beginRounds_n F d nR nN nT gg X ρ φ x2 x3 _ (by omega) hy) ?_
                    show qm_Rn (d + 1) 152 190 [.ref 26, .int x1, .int x2, .int x3] [] (cs nR nN nT gg X ρ φ10) _
                    refine qr_s hC (n := 1) (pc' := 281) (ls' := [.ref 26, .int x1, .int x2, .int x3]) (st' := []) (h' := cs nR nN nT gg X ρ φ10) rfl ?_
                    have hs := Option.some.inj hs
                    subst hs
                    exact qr_r hC rfl rfl
                  · rw [if_neg q8] at hs
                    by_cases q9 : x1 = 10
                    · rw [if_pos q9] at hs
                      refine qr_sw hC (tgt := 193) rfl q9 rfl ?_
                      refine qr_s hC (n := 3) (pc' := 196) (ls' := [.ref 26, .int x1, .int x2, .int x3]) (st' := [.int x3, .int x2, .ref 26]) (h' := cs nR nN nT gg X ρ φ) rfl ?_
                      obtain ⟨φ11, hy, hs⟩ := qb1_s hs
                      refine qr_c (j := 158) (as := [.ref 26, .int x2, .int x3]) (rest := []) (v := none) (h1 := cs nR nN nT gg X ρ φ11) hC rfl rfl qC_158 rfl rfl (ma_goRoundAgain_n F d nR nN nT gg X ρ φ x2 x3 _ (by omega) hy) ?_
                      show qm_Rn (d + 1) 152 199 [.ref 26, .int x1, .int x2, .int x3] [] (cs nR nN nT gg X ρ φ11) _
                      refine qr_s hC (n := 1) (pc' := 281) (ls' := [.ref 26, .int x1, .int x2, .int x3]) (st' := []) (h' := cs nR nN nT gg X ρ φ11) rfl ?_
                      have hs := Option.some.inj hs
                      subst hs
                      exact qr_r hC rfl rfl
                    · rw [if_neg q9] at hs
                      by_cases q10 : x1 = 11
                      · rw [if_pos q10] at hs
                        refine qr_sw hC (tgt := 202) rfl q10 rfl ?_
                        refine qr_s hC (n := 4) (pc' := 208) (ls' := [.ref 26, .int x1, .int x2, .int x3]) (st' := [.int (φ 26 7), .int x2, .ref 26]) (h' := cs nR nN nT gg X ρ φ) rfl ?_
                        refine qr_ne1 (tgt := 215) hC rfl (by decide) rfl (fun hc => ?_) (fun hc => ?_)
                        · rw [if_pos hc] at hs
                          refine qr_s hC (n := 2) (pc' := 219) (ls' := [.ref 26, .int x1, .int x2, .int x3]) (st' := [.int (φ 26 7), .int x2, .ref 26]) (h' := cs nR nN nT gg X ρ φ) rfl ?_
                          exact qr_w (a := [.retAddr 0, .retAddr 0, .retAddr 0, .retAddr 0]) ⟨Or.inl rfl, Or.inl rfl, Or.inl rfl, Or.inl rfl, trivial⟩ (ma_perform_L219_n F (d + 1) nR nN nT gg X ρ (by omega) φ (φ 26 7) x2 _ hs)
                        · rw [if_neg hc] at hs
                          refine qr_s hC (n := 2) (pc' := 219) (ls' := [.ref 26, .int x1, .int x2, .int x3]) (st' := [.int x3, .int x2, .ref 26]) (h' := cs nR nN nT gg X ρ φ) rfl ?_
                          exact qr_w (a := [.retAddr 0, .retAddr 0, .retAddr 0, .retAddr 0]) ⟨Or.inl rfl, Or.inl rfl, Or.inl rfl, Or.inl rfl, trivial⟩ (ma_perform_L219_n F (d + 1) nR nN nT gg X ρ (by omega) φ x3 x2 _ hs)
                      · rw [if_neg q10] at hs
                        by_cases q11 : x1 = 12
                        · rw [if_pos q11] at hs
                          refine qr_sw hC (tgt := 225) rfl q11 rfl ?_
                          refine qr_s hC (n := 4) (pc' := 229) (ls' := [.ref 26, .int x1, .int x2, .int x3]) (st' := [.ref 26, .int x3, .int x2, .ref 26]) (h' := cs nR nN nT gg X ρ φ) rfl ?_
                          obtain ⟨y5, φ12, hy, hs⟩ := qb2_s hs
                          refine qr_c (j := 154) (as := [.ref 26]) (rest := [.int x3, .int x2, .ref 26]) (v := some (.int y5)) (h1 := cs nR nN nT gg X ρ φ12) hC rfl rfl qC_154 rfl rfl (ma_pop_n F d nR nN nT gg X ρ φ _ (by omega) hy) ?_
                          show qm_Rn (d + 1) 152 232 [.ref 26, .int x1, .int x2, .int x3] [.int y5, .int x3, .int x2, .ref 26] (cs nR nN nT gg X ρ φ12) _
                          obtain ⟨φ13, hy, hs⟩ := qb1_s hs
                          refine qr_c (j := 159) (as := [.ref 26, .int x2, .int x3, .int y5]) (rest := []) (v := none) (h1 := cs nR nN nT gg X ρ φ13) hC rfl rfl qC_159 rfl rfl (ma_testWhile_n F d nR nN nT gg X ρ φ12 x2 x3 y5 _ (by omega) hy) ?_
                          show qm_Rn (d + 1) 152 235 [.ref 26, .int x1, .int x2, .int x3] [] (cs nR nN nT gg X ρ φ13) _
                          refine qr_s hC (n := 1) (pc' := 281) (ls' := [.ref 26, .int x1, .int x2, .int x3]) (st' := []) (h' := cs nR nN nT gg X ρ φ13) rfl ?_
                          have hs := Option.some.inj hs
                          subst hs
                          exact qr_r hC rfl rfl
                        · rw [if_neg q11] at hs
                          by_cases q12 : x1 = 13
                          · rw [if_pos q12] at hs
                            refine qr_sw hC (tgt := 238) rfl q12 rfl ?_
                            refine qr_s hC (n := 2) (pc' := 240) (ls' := [.ref 26, .int x1, .int x2, .int x3]) (st' := [.ref 26, .ref 26]) (h' := cs nR nN nT gg X ρ φ) rfl ?_
                            obtain ⟨y6, φ14, hy, hs⟩ := qb2_s hs
                            refine qr_c (j := 154) (as := [.ref 26]) (rest := [.ref 26]) (v := some (.int y6)) (h1 := cs nR nN nT gg X ρ φ14) hC rfl rfl qC_154 rfl rfl (ma_pop_n F d nR nN nT gg X ρ φ _ (by omega) hy) ?_
                            show qm_Rn (d + 1) 152 243 [.ref 26, .int x1, .int x2, .int x3] [.int y6, .ref 26] (cs nR nN nT gg X ρ φ14) _
                            refine qr_ne1 (tgt := 250) hC rfl (by decide) rfl (fun hc => ?_) (fun hc => ?_)
                            · rw [if_pos hc] at hs
                              refine qr_s hC (n := 3) (pc' := 281) (ls' := [.ref 26, .int x1, .int x2, .int x3]) (st' := []) (h' := cs nR nN nT gg X ρ (qm_u φ14 26 9 (-1))) rfl ?_
                              have hs := Option.some.inj hs
                              subst hs
                              exact qr_r hC rfl rfl
                            · rw [if_neg hc] at hs
                              refine qr_s hC (n := 4) (pc' := 281) (ls' := [.ref 26, .int x1, .int x2, .int x3]) (st' := []) (h' := cs nR nN nT gg X ρ (qm_u φ14 26 9 2)) rfl ?_
                              have hs := Option.some.inj hs
                              subst hs
                              exact qr_r hC rfl rfl
                          · rw [if_neg q12] at hs
                            by_cases q13 : x1 = 14
                            · rw [if_pos q13] at hs
                              refine qr_sw hC (tgt := 257) rfl q13 rfl ?_
                              refine qr_s hC (n := 2) (pc' := 259) (ls' := [.ref 26, .int x1, .int x2, .int x3]) (st' := [.ref 26, .ref 26]) (h' := cs nR nN nT gg X ρ φ) rfl ?_
                              obtain ⟨y7, φ15, hy, hs⟩ := qb2_s hs
                              refine qr_c (j := 154) (as := [.ref 26]) (rest := [.ref 26]) (v := some (.int y7)) (h1 := cs nR nN nT gg X ρ φ15) hC rfl rfl qC_154 rfl rfl (ma_pop_n F d nR nN nT gg X ρ φ _ (by omega) hy) ?_
                              show qm_Rn (d + 1) 152 262 [.ref 26, .int x1, .int x2, .int x3] [.int y7, .ref 26] (cs nR nN nT gg X ρ φ15) _
                              refine qr_ne1 (tgt := 269) hC rfl (by decide) rfl (fun hc => ?_) (fun hc => ?_)
                              · rw [if_pos hc] at hs
                                refine qr_s hC (n := 3) (pc' := 281) (ls' := [.ref 26, .int x1, .int x2, .int x3]) (st' := []) (h' := cs nR nN nT gg X ρ (qm_u φ15 26 9 0)) rfl ?_
                                have hs := Option.some.inj hs
                                subst hs
                                exact qr_r hC rfl rfl
                              · rw [if_neg hc] at hs
                                refine qr_s hC (n := 4) (pc' := 281) (ls' := [.ref 26, .int x1, .int x2, .int x3]) (st' := []) (h' := cs nR nN nT gg X ρ (qm_u φ15 26 9 1)) rfl ?_
                                have hs := Option.some.inj hs
                                subst hs
                                exact qr_r hC rfl rfl
                            · rw [if_neg q13] at hs
                              have z0 : Int32.toInt x1 ≠ 1 := fun z => q0 (Int32.toInt_inj.mp (z.trans (by decide)))
                              have z1 : Int32.toInt x1 ≠ 2 := fun z => q1 (Int32.toInt_inj.mp (z.trans (by decide)))
                              have z2 : Int32.toInt x1 ≠ 3 := fun z => q2 (Int32.toInt_inj.mp (z.trans (by decide)))
                              have z3 : Int32.toInt x1 ≠ 4 := fun z => q3 (Int32.toInt_inj.mp (z.trans (by decide)))
                              have z4 : Int32.toInt x1 ≠ 5 := fun z => q4 (Int32.toInt_inj.mp (z.trans (by decide)))
                              have z5 : Int32.toInt x1 ≠ 6 := fun z => q5 (Int32.toInt_inj.mp (z.trans (by decide)))
                              have z6 : Int32.toInt x1 ≠ 7 := fun z => q6 (Int32.toInt_inj.mp (z.trans (by decide)))
                              have z7 : Int32.toInt x1 ≠ 8 := fun z => q7 (Int32.toInt_inj.mp (z.trans (by decide)))
                              have z8 : Int32.toInt x1 ≠ 9 := fun z => q8 (Int32.toInt_inj.mp (z.trans (by decide)))
                              have z9 : Int32.toInt x1 ≠ 10 := fun z => q9 (Int32.toInt_inj.mp (z.trans (by decide)))
                              have z10 : Int32.toInt x1 ≠ 11 := fun z => q10 (Int32.toInt_inj.mp (z.trans (by decide)))
                              have z11 : Int32.toInt x1 ≠ 12 := fun z => q11 (Int32.toInt_inj.mp (z.trans (by decide)))
                              have z12 : Int32.toInt x1 ≠ 13 := fun z => q12 (Int32.toInt_inj.mp (z.trans (by decide)))
                              have z13 : Int32.toInt x1 ≠ 14 := fun z => q13 (Int32.toInt_inj.mp (z.trans (by decide)))
                              refine qr_tD (tgt := 276) hC rfl (by omega) (by decide) rfl ?_
                              refine qr_s hC (n := 2) (pc' := 278) (ls' := [.ref 26, .int x1, .int x2, .int x3]) (st' := [.int x1, .ref 26]) (h' := cs nR nN nT gg X ρ φ) rfl ?_
                              obtain ⟨φ16, hy, hs⟩ := qb1_s hs
                              refine qr_c (j := 160) (as := [.ref 26, .int x1]) (rest := []) (v := none) (h1 := cs nR nN nT gg X ρ φ16) hC rfl rfl qC_160 rfl rfl (ma_join_n F d nR nN nT gg X ρ φ x1 _ (by omega) hy) ?_
                              show qm_Rn (d + 1) 152 281 [.ref 26, .int x1, .int x2, .int x3] [] (cs nR nN nT gg X ρ φ16) _
                              have hs := Option.some.inj hs
                              subst hs
                              exact qr_r hC rfl rfl
/-- java/util/Arrays.fill([II)V -/
def ja_fillSlots_L5 (F : Nat) (nR nN nT gg : Nat) : Nat → qm_F → Int32 → Int32 → Int32 → Option qm_F
  | 0, _, _, _, _ => none
  | n + 1, φ, x1, x2, x3 =>
    if x3 ≤ x2 then
      some φ
    else
      qg (qm_in x2 15) <|
      ja_fillSlots_L5 F nR nN nT gg n (qm_u φ 27 x2.toNatClampNeg x1) x1 (x2 + 1) x3
def ja_fillSlots (F : Nat) (nR nN nT gg : Nat) (φ : qm_F) (x1 : Int32) : Option qm_F :=
  ja_fillSlots_L5 F nR nN nT gg F φ x1 0 15
set_option maxRecDepth 100000 in
theorem ja_fillSlots_L5_n (F d : Nat) (nR nN nT gg : Nat) (X : List (Nat × Nat)) (ρ : Nat → Nat → Option Nat) (hd : 0 ≤ d) : ∀ (n : Nat) (φ : qm_F) (x1 : Int32) (x2 : Int32) (x3 : Int32) (r : qm_F), ja_fillSlots_L5 F nR nN nT gg n φ x1 x2 x3 = some r → qm_Rn d 282 5 [.ref 27, .int x1, .int x2, .int x3] [] (cs nR nN nT gg X ρ φ) (none, cs nR nN nT gg X ρ r) := by
  have hC := qC_282
  intro n
  induction n with
  | zero => intro φ x1 x2 x3 r hs; simp [ja_fillSlots_L5] at hs
  | succ n ih =>
    intro φ x1 x2 x3 r hs
    rw [ja_fillSlots_L5] at hs
    refine qr_s hC (n := 2) (pc' := 7) (ls' := [.ref 27, .int x1, .int x2, .int x3]) (st' := [.int x3, .int x2]) (h' := cs nR nN nT gg X ρ φ) rfl ?_
    refine qr_ge2 (tgt := 20) hC rfl (by decide) rfl (fun hc => ?_) (fun hc => ?_)
    · rw [if_pos hc] at hs
      have hs := Option.some.inj hs
      subst hs
      exact qr_r hC rfl rfl
    · rw [if_neg hc] at hs
      refine qr_s hC (n := 3) (pc' := 13) (ls' := [.ref 27, .int x1, .int x2, .int x3]) (st' := [.int x1, .int x2, .ref 27]) (h' := cs nR nN nT gg X ρ φ) rfl ?_
      obtain ⟨hq, hs⟩ := qg_s hs
      refine qr_is (h' := cs nR nN nT gg X ρ (qm_u φ 27 x2.toNatClampNeg x1)) hC rfl rfl hq rfl ?_
      refine qr_s hC (n := 2) (pc' := 5) (ls' := [.ref 27, .int x1, .int (x2 + 1), .int x3]) (st' := []) (h' := cs nR nN nT gg X ρ (qm_u φ 27 x2.toNatClampNeg x1)) rfl ?_
      exact ih (qm_u φ 27 x2.toNatClampNeg x1) x1 (x2 + 1) x3 _ hs
set_option maxRecDepth 100000 in
theorem ja_fillSlots_n (F d : Nat) (nR nN nT gg : Nat) (X : List (Nat × Nat)) (ρ : Nat → Nat → Option Nat) (φ : qm_F) (x1 : Int32) (r : qm_F) (hd : 0 ≤ d) (hs : ja_fillSlots F nR nN nT gg φ x1 = some r) : qm_Rn d 282 0 [.ref 27, .int x1, .retAddr 0, .retAddr 0] [] (cs nR nN nT gg X ρ φ) (none, cs nR nN nT gg X ρ r) := by
  have hC := qC_282
  unfold ja_fillSlots at hs
  refine qr_s hC (n := 5) (pc' := 5) (ls' := [.ref 27, .int x1, .int 0, .int 15]) (st' := []) (h' := cs nR nN nT gg X ρ φ) rfl ?_
  exact ja_fillSlots_L5_n F d nR nN nT gg X ρ (by omega) F φ x1 0 15 _ hs
/-- SketchFiller$Program.fillSlots([III)V -/
def pr_fillSlots_L76 (F : Nat) (nR nN nT gg : Nat) : Nat → qm_F → Int32 → Int32 → Option qm_F
  | 0, _, _, _ => none
  | n + 1, φ, x5, x6 =>
    if x6 < 0 then
      some φ
    else
      qg (qm_in x6 5) <|
      qg (qm_in (3 + x6) 15) <|
      qg (qm_in x6 5) <|
      pr_fillSlots_L76 F nR nN nT gg n (qm_u φ 27 ((3 + x6).toNatClampNeg) (x5 &&& (((1 : Int32) <<< ((φ 16 x6.toNatClampNeg) &&& 31)) - 1))) (x5 >>> ((φ 16 x6.toNatClampNeg) &&& 31)) (x6 + (-1))
def pr_fillSlots_L24 (F : Nat) (nR nN nT gg : Nat) : Nat → qm_F → Int32 → Int32 → Int32 → Option qm_F
  | 0, _, _, _, _ => none
  | n + 1, φ, x2, x4, x5 =>
    if x5 < 0 then
      pr_fillSlots_L76 F nR nN nT gg F φ x2 ((φ 14 2) - 1)
    else
      qg (qm_in x5 3) <|
      qg (qm_in x5 15) <|
      qg (qm_in x5 3) <|
      pr_fillSlots_L24 F nR nN nT gg n (qm_u φ 27 x5.toNatClampNeg (x4 &&& (((1 : Int32) <<< ((φ 15 x5.toNatClampNeg) &&& 31)) - 1))) x2 (x4 >>> ((φ 15 x5.toNatClampNeg) &&& 31)) (x5 + (-1))
def pr_fillSlots (F : Nat) (nR nN nT gg : Nat) (φ : qm_F) (x2 : Int32) (x3 : Int32) : Option qm_F :=
  if 15 ≤ (15 : Int32) then
    qb1 (ja_fillSlots F nR nN nT gg φ 0) fun φ1 =>
    pr_fillSlots_L24 F nR nN nT gg F φ1 x2 x3 ((φ1 14 1) - 1)
  else
    some φ
set_option maxRecDepth 100000 in
theorem pr_fillSlots_L76_n (F d : Nat) (nR nN nT gg : Nat) (X : List (Nat × Nat)) (ρ : Nat → Nat → Option Nat) (hd : 1 ≤ d) : ∀ (n : Nat) (φ : qm_F) (x5 : Int32) (x6 : Int32) (r : qm_F), pr_fillSlots_L76 F nR nN nT gg n φ x5 x6 = some r → qm_Rn d 210 76 [.ref 14, .ref 27, .retAddr 0, .retAddr 0, .retAddr 0, .int x5, .int x6] [] (cs nR nN nT gg X ρ φ) (none, cs nR nN nT gg X ρ r) := by
  obtain ⟨d, rfl⟩ : ∃ e, d = e + 1 := ⟨d - 1, by omega⟩
  have hC := qC_210
  intro n
  induction n with
  | zero => intro φ x5 x6 r hs; simp [pr_fillSlots_L76] at hs
  | succ n ih =>
    intro φ x5 x6 r hs
    rw [pr_fillSlots_L76] at hs
    refine qr_s hC (n := 1) (pc' := 78) (ls' := [.ref 14, .ref 27, .retAddr 0, .retAddr 0, .retAddr 0, .int x5, .int x6]) (st' := [.int x6]) (h' := cs nR nN nT gg X ρ φ) rfl ?_
    refine qr_lt1 (tgt := 119) hC rfl (by decide) rfl (fun hc => ?_) (fun hc => ?_)
    · rw [if_pos hc] at hs
      have hs := Option.some.inj hs
      subst hs
      exact qr_r hC rfl rfl
    · rw [if_neg hc] at hs
      refine qr_s hC (n := 9) (pc' := 95) (ls' := [.ref 14, .ref 27, .retAddr 0, .retAddr 0, .retAddr 0, .int x5, .int x6]) (st' := [.int x6, .ref 16, .int 1, .int x5, .int (3 + x6), .ref 27]) (h' := cs nR nN nT gg X ρ φ) rfl ?_
      obtain ⟨hq, hs⟩ := qg_s hs
      refine qr_ia (v := φ 16 x6.toNatClampNeg) hC rfl rfl hq rfl ?_
      refine qr_s hC (n := 4) (pc' := 100) (ls' := [.ref 14, .ref 27, .retAddr 0, .retAddr 0, .retAddr 0, .int x5, .int x6]) (st' := [.int (x5 &&& (((1 : Int32) <<< ((φ 16 x6.toNatClampNeg) &&& 31)) - 1)), .int (3 + x6), .ref 27]) (h' := cs nR nN nT gg X ρ φ) rfl ?_
      obtain ⟨hq, hs⟩ := qg_s hs
      refine qr_is (h' := cs nR nN nT gg X ρ (qm_u φ 27 ((3 + x6).toNatClampNeg) (x5 &&& (((1 : Int32) <<< ((φ 16 x6.toNatClampNeg) &&& 31)) - 1)))) hC rfl rfl hq rfl ?_
      refine qr_s hC (n := 4) (pc' := 109) (ls' := [.ref 14, .ref 27, .retAddr 0, .retAddr 0, .retAddr 0, .int x5, .int x6]) (st' := [.int x6, .ref 16, .int x5]) (h' := cs nR nN nT gg X ρ (qm_u φ 27 ((3 + x6).toNatClampNeg) (x5 &&& (((1 : Int32) <<< ((φ 16 x6.toNatClampNeg) &&& 31)) - 1)))) rfl ?_
      obtain ⟨hq, hs⟩ := qg_s hs
      refine qr_ia (v := φ 16 x6.toNatClampNeg) hC rfl rfl hq rfl ?_
      refine qr_s hC (n := 4) (pc' := 76) (ls' := [.ref 14, .ref 27, .retAddr 0, .retAddr 0, .retAddr 0, .int (x5 >>> ((φ 16 x6.toNatClampNeg) &&& 31)), .int (x6 + (-1))]) (st' := []) (h' := cs nR nN nT gg X ρ (qm_u φ 27 ((3 + x6).toNatClampNeg) (x5 &&& (((1 : Int32) <<< ((φ 16 x6.toNatClampNeg) &&& 31)) - 1)))) rfl ?_
      exact ih (qm_u φ 27 ((3 + x6).toNatClampNeg) (x5 &&& (((1 : Int32) <<< ((φ 16 x6.toNatClampNeg) &&& 31)) - 1))) (x5 >>> ((φ 16 x6.toNatClampNeg) &&& 31)) (x6 + (-1)) _ hs
set_option maxRecDepth 100000 in
theorem pr_fillSlots_L24_n (F d : Nat) (nR nN nT gg : Nat) (X : List (Nat × Nat)) (ρ : Nat → Nat → Option Nat) (hd : 1 ≤ d) : ∀ (n : Nat) (φ : qm_F) (x2 : Int32) (x4 : Int32) (x5 : Int32) (r : qm_F), pr_fillSlots_L24 F nR nN nT gg n φ x2 x4 x5 = some r → qm_Rn d 210 24 [.ref 14, .ref 27, .int x2, .retAddr 0, .int x4, .int x5, .retAddr 0] [] (cs nR nN nT gg X ρ φ) (none, cs nR nN nT gg X ρ r) := by
  obtain ⟨d, rfl⟩ : ∃ e, d = e + 1 := ⟨d - 1, by omega⟩
  have hC := qC_210
  intro n
  induction n with
  | zero => intro φ x2 x4 x5 r hs; simp [pr_fillSlots_L24] at hs
  | succ n ih =>
    intro φ x2 x4 x5 r hs
    rw [pr_fillSlots_L24] at hs
    refine qr_s hC (n := 1) (pc' := 26) (ls' := [.ref 14, .ref 27, .int x2, .retAddr 0, .int x4, .int x5, .retAddr 0]) (st' := [.int x5]) (h' := cs nR nN nT gg X ρ φ) rfl ?_
    refine qr_lt1 (tgt := 65) hC rfl (by decide) rfl (fun hc => ?_) (fun hc => ?_)
    · rw [if_pos hc] at hs
      refine qr_s hC (n := 7) (pc' := 76) (ls' := [.ref 14, .ref 27, .int x2, .retAddr 0, .int x4, .int x2, .int ((φ 14 2) - 1)]) (st' := []) (h' := cs nR nN nT gg X ρ φ) rfl ?_
      exact qr_w (a := [.ref 14, .ref 27, .retAddr 0, .retAddr 0, .retAddr 0, .int x2, .int ((φ 14 2) - 1)]) ⟨Or.inr rfl, Or.inr rfl, Or.inl rfl, Or.inr rfl, Or.inl rfl, Or.inr rfl, Or.inr rfl, trivial⟩ (pr_fillSlots_L76_n F (d + 1) nR nN nT gg X ρ (by omega) F φ x2 ((φ 14 2) - 1) _ hs)
    · rw [if_neg hc] at hs
      refine qr_s hC (n := 7) (pc' := 41) (ls' := [.ref 14, .ref 27, .int x2, .retAddr 0, .int x4, .int x5, .retAddr 0]) (st' := [.int x5, .ref 15, .int 1, .int x4, .int x5, .ref 27]) (h' := cs nR nN nT gg X ρ φ) rfl ?_
      obtain ⟨hq, hs⟩ := qg_s hs
      refine qr_ia (v := φ 15 x5.toNatClampNeg) hC rfl rfl hq rfl ?_
      refine qr_s hC (n := 4) (pc' := 46) (ls' := [.ref 14, .ref 27, .int x2, .retAddr 0, .int x4, .int x5, .retAddr 0]) (st' := [.int (x4 &&& (((1 : Int32) <<< ((φ 15 x5.toNatClampNeg) &&& 31)) - 1)), .int x5, .ref 27]) (h' := cs nR nN nT gg X ρ φ) rfl ?_
      obtain ⟨hq, hs⟩ := qg_s hs
      refine qr_is (h' := cs nR nN nT gg X ρ (qm_u φ 27 x5.toNatClampNeg (x4 &&& (((1 : Int32) <<< ((φ 15 x5.toNatClampNeg) &&& 31)) - 1)))) hC rfl rfl hq rfl ?_
      refine qr_s hC (n := 4) (pc' := 55) (ls' := [.ref 14, .ref 27, .int x2, .retAddr 0, .int x4, .int x5, .retAddr 0]) (st' := [.int x5, .ref 15, .int x4]) (h' := cs nR nN nT gg X ρ (qm_u φ 27 x5.toNatClampNeg (x4 &&& (((1 : Int32) <<< ((φ 15 x5.toNatClampNeg) &&& 31)) - 1)))) rfl ?_
      obtain ⟨hq, hs⟩ := qg_s hs
      refine qr_ia (v := φ 15 x5.toNatClampNeg) hC rfl rfl hq rfl ?_
      refine qr_s hC (n := 4) (pc' := 24) (ls' := [.ref 14, .ref 27, .int x2, .retAddr 0, .int (x4 >>> ((φ 15 x5.toNatClampNeg) &&& 31)), .int (x5 + (-1)), .retAddr 0]) (st' := []) (h' := cs nR nN nT gg X ρ (qm_u φ 27 x5.toNatClampNeg (x4 &&& (((1 : Int32) <<< ((φ 15 x5.toNatClampNeg) &&& 31)) - 1)))) rfl ?_
      exact ih (qm_u φ 27 x5.toNatClampNeg (x4 &&& (((1 : Int32) <<< ((φ 15 x5.toNatClampNeg) &&& 31)) - 1))) x2 (x4 >>> ((φ 15 x5.toNatClampNeg) &&& 31)) (x5 + (-1)) _ hs
set_option maxRecDepth 100000 in
theorem pr_fillSlots_n (F d : Nat) (nR nN nT gg : Nat) (X : List (Nat × Nat)) (ρ : Nat → Nat → Option Nat) (φ : qm_F) (x2 : Int32) (x3 : Int32) (r : qm_F) (hd : 1 ≤ d) (hs : pr_fillSlots F nR nN nT gg φ x2 x3 = some r) : qm_Rn d 210 0 [.ref 14, .ref 27, .int x2, .int x3, .retAddr 0, .retAddr 0, .retAddr 0] [] (cs nR nN nT gg X ρ φ) (none, cs nR nN nT gg X ρ r) := by
  obtain ⟨d, rfl⟩ : ∃ e, d = e + 1 := ⟨d - 1, by omega⟩
  have hC := qC_210
  unfold pr_fillSlots at hs
  refine qr_s hC (n := 3) (pc' := 4) (ls' := [.ref 14, .ref 27, .int x2, .int x3, .retAddr 0, .retAddr 0, .retAddr 0]) (st' := [.int 15, .int 15]) (h' := cs nR nN nT gg X ρ φ) rfl ?_
  refine qr_ge2 (tgt := 8) hC rfl (by decide) rfl (fun hc => ?_) (fun hc => ?_)
  · rw [if_pos hc] at hs
    refine qr_s hC (n := 2) (pc' := 10) (ls' := [.ref 14, .ref 27, .int x2, .int x3, .retAddr 0, .retAddr 0, .retAddr 0]) (st' := [.int 0, .ref 27]) (h' := cs nR nN nT gg X ρ φ) rfl ?_
    obtain ⟨φ1, hy, hs⟩ := qb1_s hs
    refine qr_c (j := 282) (as := [.ref 27, .int 0]) (rest := []) (v := none) (h1 := cs nR nN nT gg X ρ φ1) hC rfl rfl qC_282 rfl rfl (ja_fillSlots_n F d nR nN nT gg X ρ φ 0 _ (by omega) hy) ?_
    show qm_Rn (d + 1) 210 13 [.ref 14, .ref 27, .int x2, .int x3, .retAddr 0, .retAddr 0, .retAddr 0] [] (cs nR nN nT gg X ρ φ1) _
    refine qr_s hC (n := 7) (pc' := 24) (ls' := [.ref 14, .ref 27, .int x2, .int x3, .int x3, .int ((φ1 14 1) - 1), .retAddr 0]) (st' := []) (h' := cs nR nN nT gg X ρ φ1) rfl ?_
    exact qr_w (a := [.ref 14, .ref 27, .int x2, .retAddr 0, .int x3, .int ((φ1 14 1) - 1), .retAddr 0]) ⟨Or.inr rfl, Or.inr rfl, Or.inr rfl, Or.inl rfl, Or.inr rfl, Or.inr rfl, Or.inr rfl, trivial⟩ (pr_fillSlots_L24_n F (d + 1) nR nN nT gg X ρ (by omega) F φ1 x2 x3 ((φ1 14 1) - 1) _ hs)
  · rw [if_neg hc] at hs
    have hs := Option.some.inj hs
    subst hs
    exact qr_r hC rfl rfl
/-- SketchFiller$Machine.run(III)V -/
def ma_run_L41 (F : Nat) (nR nN nT gg : Nat) : Nat → qm_F → Int32 → Option qm_F
  | 0, _, _ => none
  | n + 1, φ, x4 =>
    if 1000000 ≤ x4 then
      some φ
    else
      if ¬ (φ 26 9) = (-1) then
        some φ
      else
        if (φ 26 6) < 0 then
          ma_run_L41 F nR nN nT gg n (qm_u φ 26 9 0) (x4 + 1)
        else
          if (φ 26 6) < (φ 14 13) then
            qg (qm_in (φ 26 6) nT) <|
            qg (qm_in (φ 26 6) nT) <|
            qg (qm_in (φ 26 6) nT) <|
            qb1 (ma_perform F nR nN nT gg (qm_u φ 26 6 ((φ 26 6) + 1)) (φ 20 ((φ 26 6).toNatClampNeg)) (φ 21 ((φ 26 6).toNatClampNeg)) (φ 22 ((φ 26 6).toNatClampNeg))) fun φ1 =>
            ma_run_L41 F nR nN nT gg n φ1 (x4 + 1)
          else
            ma_run_L41 F nR nN nT gg n (qm_u φ 26 9 0) (x4 + 1)
def ma_run (F : Nat) (nR nN nT gg : Nat) (φ : qm_F) (x1 : Int32) (x2 : Int32) (x3 : Int32) : Option qm_F :=
  qb1 (pr_fillSlots F nR nN nT gg φ x1 x2) fun φ1 =>
  ma_run_L41 F nR nN nT gg F (qm_u (qm_u (qm_u (qm_u (qm_u φ1 26 7 x3) 26 5 0) 26 6 0) 26 8 0) 26 9 (-1)) 0
set_option maxRecDepth 100000 in
theorem ma_run_L41_n (F d : Nat) (nR nN nT gg : Nat) (X : List (Nat × Nat)) (ρ : Nat → Nat → Option Nat) (hd : 2 ≤ d) : ∀ (n : Nat) (φ : qm_F) (x4 : Int32) (r : qm_F), ma_run_L41 F nR nN nT gg n φ x4 = some r → qm_Rn d 148 41 [.ref 26, .retAddr 0, .retAddr 0, .retAddr 0, .int x4, .retAddr 0] [] (cs nR nN nT gg X ρ φ) (none, cs nR nN nT gg X ρ r) := by
  obtain ⟨d, rfl⟩ : ∃ e, d = e + 1 := ⟨d - 1, by omega⟩
  have hC := qC_148
  intro n
  induction n with
  | zero => intro φ x4 r hs; simp [ma_run_L41] at hs
  | succ n ih =>
    intro φ x4 r hs
    rw [ma_run_L41] at hs
    refine qr_s hC (n := 2) (pc' := 45) (ls' := [.ref 26, .retAddr 0, .retAddr 0, .retAddr 0, .int x4, .retAddr 0]) (st' := [.int 1000000, .int x4]) (h' := cs nR nN nT gg X ρ φ) rfl ?_
    refine qr_ge2 (tgt := 141) hC rfl (by decide) rfl (fun hc => ?_) (fun hc => ?_)
    · rw [if_pos hc] at hs
      have hs := Option.some.inj hs
      subst hs
      exact qr_r hC rfl rfl
    · rw [if_neg hc] at hs
      refine qr_s hC (n := 3) (pc' := 53) (ls' := [.ref 26, .retAddr 0, .retAddr 0, .retAddr 0, .int x4, .retAddr 0]) (st' := [.int (-1), .int (φ 26 9)]) (h' := cs nR nN nT gg X ρ φ) rfl ?_
      refine qr_ne2 (tgt := 141) hC rfl (by decide) rfl (fun hc => ?_) (fun hc => ?_)
      · rw [if_pos hc] at hs
        have hs := Option.some.inj hs
        subst hs
        exact qr_r hC rfl rfl
      · rw [if_neg hc] at hs
        refine qr_s hC (n := 2) (pc' := 60) (ls' := [.ref 26, .retAddr 0, .retAddr 0, .retAddr 0, .int x4, .retAddr 0]) (st' := [.int (φ 26 6)]) (h' := cs nR nN nT gg X ρ φ) rfl ?_
        refine qr_lt1 (tgt := 77) hC rfl (by decide) rfl (fun hc => ?_) (fun hc => ?_)
        · rw [if_pos hc] at hs
          refine qr_s hC (n := 6) (pc' := 41) (ls' := [.ref 26, .retAddr 0, .retAddr 0, .retAddr 0, .int (x4 + 1), .retAddr 0]) (st' := []) (h' := cs nR nN nT gg X ρ (qm_u φ 26 9 0)) rfl ?_
          exact ih (qm_u φ 26 9 0) (x4 + 1) _ hs
        · rw [if_neg hc] at hs
          refine qr_s hC (n := 5) (pc' := 74) (ls' := [.ref 26, .retAddr 0, .retAddr 0, .retAddr 0, .int x4, .retAddr 0]) (st' := [.int (φ 14 13), .int (φ 26 6)]) (h' := cs nR nN nT gg X ρ φ) rfl ?_
          refine qr_lt2 (tgt := 85) hC rfl (by decide) rfl (fun hc => ?_) (fun hc => ?_)
          · rw [if_pos hc] at hs
            refine qr_s hC (n := 14) (pc' := 111) (ls' := [.ref 26, .retAddr 0, .retAddr 0, .retAddr 0, .int x4, .int (φ 26 6)]) (st' := [.int (φ 26 6), .ref 20, .ref 26]) (h' := cs nR nN nT gg X ρ (qm_u φ 26 6 ((φ 26 6) + 1))) rfl ?_
            obtain ⟨hq, hs⟩ := qg_s hs
            refine qr_ia (v := φ 20 ((φ 26 6).toNatClampNeg)) hC rfl rfl hq rfl ?_
            refine qr_s hC (n := 4) (pc' := 121) (ls' := [.ref 26, .retAddr 0, .retAddr 0, .retAddr 0, .int x4, .int (φ 26 6)]) (st' := [.int (φ 26 6), .ref 21, .int (φ 20 ((φ 26 6).toNatClampNeg)), .ref 26]) (h' := cs nR nN nT gg X ρ (qm_u φ 26 6 ((φ 26 6) + 1))) rfl ?_
            obtain ⟨hq, hs⟩ := qg_s hs
            refine qr_ia (v := φ 21 ((φ 26 6).toNatClampNeg)) hC rfl rfl hq rfl ?_
            refine qr_s hC (n := 4) (pc' := 131) (ls' := [.ref 26, .retAddr 0, .retAddr 0, .retAddr 0, .int x4, .int (φ 26 6)]) (st' := [.int (φ 26 6), .ref 22, .int (φ 21 ((φ 26 6).toNatClampNeg)), .int (φ 20 ((φ 26 6).toNatClampNeg)), .ref 26]) (h' := cs nR nN nT gg X ρ (qm_u φ 26 6 ((φ 26 6) + 1))) rfl ?_
            obtain ⟨hq, hs⟩ := qg_s hs
            refine qr_ia (v := φ 22 ((φ 26 6).toNatClampNeg)) hC rfl rfl hq rfl ?_
            obtain ⟨φ1, hy, hs⟩ := qb1_s hs
            refine qr_c (j := 152) (as := [.ref 26, .int (φ 20 ((φ 26 6).toNatClampNeg)), .int (φ 21 ((φ 26 6).toNatClampNeg)), .int (φ 22 ((φ 26 6).toNatClampNeg))]) (rest := []) (v := none) (h1 := cs nR nN nT gg X ρ φ1) hC rfl rfl qC_152 rfl rfl (ma_perform_n F d nR nN nT gg X ρ (qm_u φ 26 6 ((φ 26 6) + 1)) (φ 20 ((φ 26 6).toNatClampNeg)) (φ 21 ((φ 26 6).toNatClampNeg)) (φ 22 ((φ 26 6).toNatClampNeg)) _ (by omega) hy) ?_
            show qm_Rn (d + 1) 148 135 [.ref 26, .retAddr 0, .retAddr 0, .retAddr 0, .int x4, .int (φ 26 6)] [] (cs nR nN nT gg X ρ φ1) _
            refine qr_s hC (n := 2) (pc' := 41) (ls' := [.ref 26, .retAddr 0, .retAddr 0, .retAddr 0, .int (x4 + 1), .int (φ 26 6)]) (st' := []) (h' := cs nR nN nT gg X ρ φ1) rfl ?_
            exact qr_w (a := [.ref 26, .retAddr 0, .retAddr 0, .retAddr 0, .int (x4 + 1), .retAddr 0]) ⟨Or.inr rfl, Or.inr rfl, Or.inr rfl, Or.inr rfl, Or.inr rfl, Or.inl rfl, trivial⟩ (ih φ1 (x4 + 1) _ hs)
          · rw [if_neg hc] at hs
            refine qr_s hC (n := 6) (pc' := 41) (ls' := [.ref 26, .retAddr 0, .retAddr 0, .retAddr 0, .int (x4 + 1), .retAddr 0]) (st' := []) (h' := cs nR nN nT gg X ρ (qm_u φ 26 9 0)) rfl ?_
            exact ih (qm_u φ 26 9 0) (x4 + 1) _ hs
set_option maxRecDepth 100000 in
theorem ma_run_n (F d : Nat) (nR nN nT gg : Nat) (X : List (Nat × Nat)) (ρ : Nat → Nat → Option Nat) (φ : qm_F) (x1 : Int32) (x2 : Int32) (x3 : Int32) (r : qm_F) (hd : 2 ≤ d) (hs : ma_run F nR nN nT gg φ x1 x2 x3 = some r) : qm_Rn d 148 0 [.ref 26, .int x1, .int x2, .int x3, .retAddr 0, .retAddr 0] [] (cs nR nN nT gg X ρ φ) (none, cs nR nN nT gg X ρ r) := by
  obtain ⟨d, rfl⟩ : ∃ e, d = e + 1 := ⟨d - 1, by omega⟩
  have hC := qC_148
  unfold ma_run at hs
  refine qr_s hC (n := 6) (pc' := 10) (ls' := [.ref 26, .int x1, .int x2, .int x3, .retAddr 0, .retAddr 0]) (st' := [.int x2, .int x1, .ref 27, .ref 14]) (h' := cs nR nN nT gg X ρ φ) rfl ?_
  obtain ⟨φ1, hy, hs⟩ := qb1_s hs
  refine qr_c (j := 210) (as := [.ref 14, .ref 27, .int x1, .int x2]) (rest := []) (v := none) (h1 := cs nR nN nT gg X ρ φ1) hC rfl rfl qC_210 rfl rfl (pr_fillSlots_n F d nR nN nT gg X ρ φ x1 x2 _ (by omega) hy) ?_
  show qm_Rn (d + 1) 148 13 [.ref 26, .int x1, .int x2, .int x3, .retAddr 0, .retAddr 0] [] (cs nR nN nT gg X ρ φ1) _
  refine qr_s hC (n := 17) (pc' := 41) (ls' := [.ref 26, .int x1, .int x2, .int x3, .int 0, .retAddr 0]) (st' := []) (h' := cs nR nN nT gg X ρ (qm_u (qm_u (qm_u (qm_u (qm_u φ1 26 7 x3) 26 5 0) 26 6 0) 26 8 0) 26 9 (-1))) rfl ?_
  exact qr_w (a := [.ref 26, .retAddr 0, .retAddr 0, .retAddr 0, .int 0, .retAddr 0]) ⟨Or.inr rfl, Or.inl rfl, Or.inl rfl, Or.inl rfl, Or.inr rfl, Or.inr rfl, trivial⟩ (ma_run_L41_n F (d + 1) nR nN nT gg X ρ (by omega) F (qm_u (qm_u (qm_u (qm_u (qm_u φ1 26 7 x3) 26 5 0) 26 6 0) 26 8 0) 26 9 (-1)) 0 _ hs)
