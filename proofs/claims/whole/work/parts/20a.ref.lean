/-! THE REFERENCE as plain functions (by program: wip/whole/gen_ref.py); its world: the object at 0, its arrays behind it -/
def mw_K : List (Nat × Nat) := [(0, 9), (2, 800), (1, 14), (1, 30), (1, 30), (1, 30), (1, 288), (1, 1600), (1, 1600), (1, 2), (1, 2), (2, 1600), (1, 1600), (1, 1600), (1, 2), (1, 5), (1, 128), (1, 15), (1, 64), (2, 16384), (1, 40), (3, 40)]
def mw_R0 : List (Option Nat) := [none, some 1, none, none, none, none, none, none, none, none, none, none, none, none, some 2, some 3, some 4, some 5, some 6, some 7, some 8, none, some 9, some 10, some 11, some 12, some 13, some 14, none, none, none, none, some 15, some 16, some 17, some 18, none, none, none, some 19, none, none, none, none, none, none, some 20, some 21, none, none, none]
def mw_R (a i : Nat) : Option Nat := if a = 0 then mw_R0.getD i none else none
def mw (φ : qm_F) : qm_H := (mw_K, φ, mw_R)
/-- SketchFillerModel.thrown()I -/
def mo_thrown (F : Nat) (φ : qm_F) : Option Int32 :=
  some (φ 0 0)
set_option maxRecDepth 100000 in
theorem mo_thrown_n (F d : Nat) (φ : qm_F) (r : Int32) (hd : 0 ≤ d) (hs : mo_thrown F φ = some r) : qm_Rn d 30 0 [.ref 0] [] (mw φ) (some (.int r), mw φ) := by
  have hC := qC_30
  unfold mo_thrown at hs
  refine qr_s hC (n := 2) (pc' := 4) (ls' := [.ref 0]) (st' := [.int (φ 0 0)]) (h' := mw φ) rfl ?_
  have hs := Option.some.inj hs
  subst hs
  exact qr_r hC rfl rfl
/-- SketchFillerModel.within(JJJ)Z -/
def mo_within (F : Nat) (φ : qm_F) (x0 : Int64) (x2 : Int64) (x4 : Int64) : Option Int32 :=
  if (lg_cmp x0 x2) < 0 then
    some 0
  else
    if 0 < (lg_cmp x0 x4) then
      some 0
    else
      some 1
set_option maxRecDepth 100000 in
theorem mo_within_n (F d : Nat) (φ : qm_F) (x0 : Int64) (x2 : Int64) (x4 : Int64) (r : Int32) (hd : 0 ≤ d) (hs : mo_within F φ x0 x2 x4 = some r) : qm_Rn d 31 0 [.long x0, .retAddr 0, .long x2, .retAddr 0, .long x4, .retAddr 0] [] (mw φ) (some (.int r), mw φ) := by
  have hC := qC_31
  unfold mo_within at hs
  refine qr_s hC (n := 3) (pc' := 3) (ls' := [.long x0, .retAddr 0, .long x2, .retAddr 0, .long x4, .retAddr 0]) (st' := [.int (lg_cmp x0 x2)]) (h' := mw φ) rfl ?_
  refine qr_lt1 (tgt := 17) hC rfl (by decide) rfl (fun hc => ?_) (fun hc => ?_)
  · rw [if_pos hc] at hs
    refine qr_s hC (n := 1) (pc' := 18) (ls' := [.long x0, .retAddr 0, .long x2, .retAddr 0, .long x4, .retAddr 0]) (st' := [.int 0]) (h' := mw φ) rfl ?_
    have hs := Option.some.inj hs
    subst hs
    exact qr_r hC rfl rfl
  · rw [if_neg hc] at hs
    refine qr_s hC (n := 3) (pc' := 10) (ls' := [.long x0, .retAddr 0, .long x2, .retAddr 0, .long x4, .retAddr 0]) (st' := [.int (lg_cmp x0 x4)]) (h' := mw φ) rfl ?_
    refine qr_gt1 (tgt := 17) hC rfl (by decide) rfl (fun hc => ?_) (fun hc => ?_)
    · rw [if_pos hc] at hs
      refine qr_s hC (n := 1) (pc' := 18) (ls' := [.long x0, .retAddr 0, .long x2, .retAddr 0, .long x4, .retAddr 0]) (st' := [.int 0]) (h' := mw φ) rfl ?_
      have hs := Option.some.inj hs
      subst hs
      exact qr_r hC rfl rfl
    · rw [if_neg hc] at hs
      refine qr_s hC (n := 2) (pc' := 18) (ls' := [.long x0, .retAddr 0, .long x2, .retAddr 0, .long x4, .retAddr 0]) (st' := [.int 1]) (h' := mw φ) rfl ?_
      have hs := Option.some.inj hs
      subst hs
      exact qr_r hC rfl rfl
/-- SketchFillerModel.puts(I)V -/
def mo_puts_L3 (F : Nat) : Nat → qm_F → Int32 → Int32 → Option qm_F
  | 0, _, _, _ => none
  | n + 1, φ, x1, x2 =>
    if x2 < 0 then
      some φ
    else
      qg (qm_in (φ 0 2) 800) <|
      mo_puts_L3 F n (qm_u (qm_u φ 1 ((φ 0 2).toNatClampNeg) (qm_by (qm_by (x1 >>> (x2 &&& 31))))) 0 2 ((φ 0 2) + 1)) x1 (x2 + (-8))
def mo_puts (F : Nat) (φ : qm_F) (x1 : Int32) : Option qm_F :=
  mo_puts_L3 F F φ x1 24
set_option maxRecDepth 100000 in
theorem mo_puts_L3_n (F d : Nat) (hd : 0 ≤ d) : ∀ (n : Nat) (φ : qm_F) (x1 : Int32) (x2 : Int32) (r : qm_F), mo_puts_L3 F n φ x1 x2 = some r → qm_Rn d 32 3 [.ref 0, .int x1, .int x2] [] (mw φ) (none, mw r) := by
  have hC := qC_32
  intro n
  induction n with
  | zero => intro φ x1 x2 r hs; simp [mo_puts_L3] at hs
  | succ n ih =>
    intro φ x1 x2 r hs
    rw [mo_puts_L3] at hs
    refine qr_s hC (n := 1) (pc' := 4) (ls' := [.ref 0, .int x1, .int x2]) (st' := [.int x2]) (h' := mw φ) rfl ?_
    refine qr_lt1 (tgt := 36) hC rfl (by decide) rfl (fun hc => ?_) (fun hc => ?_)
    · rw [if_pos hc] at hs
      have hs := Option.some.inj hs
      subst hs
      exact qr_r hC rfl rfl
    · rw [if_neg hc] at hs
      refine qr_s hC (n := 8) (pc' := 19) (ls' := [.ref 0, .int x1, .int x2]) (st' := [.int (qm_by (x1 >>> (x2 &&& 31))), .int (φ 0 2), .ref 1]) (h' := mw φ) rfl ?_
      obtain ⟨hq, hs⟩ := qg_s hs
      refine qr_bs (h' := mw (qm_u φ 1 ((φ 0 2).toNatClampNeg) (qm_by (qm_by (x1 >>> (x2 &&& 31)))))) hC rfl rfl hq rfl ?_
      refine qr_s hC (n := 8) (pc' := 3) (ls' := [.ref 0, .int x1, .int (x2 + (-8))]) (st' := []) (h' := mw (qm_u (qm_u φ 1 ((φ 0 2).toNatClampNeg) (qm_by (qm_by (x1 >>> (x2 &&& 31))))) 0 2 ((φ 0 2) + 1))) rfl ?_
      exact ih (qm_u (qm_u φ 1 ((φ 0 2).toNatClampNeg) (qm_by (qm_by (x1 >>> (x2 &&& 31))))) 0 2 ((φ 0 2) + 1)) x1 (x2 + (-8)) _ hs
set_option maxRecDepth 100000 in
theorem mo_puts_n (F d : Nat) (φ : qm_F) (x1 : Int32) (r : qm_F) (hd : 0 ≤ d) (hs : mo_puts F φ x1 = some r) : qm_Rn d 32 0 [.ref 0, .int x1, .retAddr 0] [] (mw φ) (none, mw r) := by
  have hC := qC_32
  unfold mo_puts at hs
  refine qr_s hC (n := 2) (pc' := 3) (ls' := [.ref 0, .int x1, .int 24]) (st' := []) (h' := mw φ) rfl ?_
  exact mo_puts_L3_n F d (by omega) F φ x1 24 _ hs
/-- SketchFillerModel.feed(IIIII)I -/
def mo_feed (F : Nat) (φ : qm_F) (x1 : Int32) (x2 : Int32) (x3 : Int32) (x4 : Int32) (x5 : Int32) : Option (Int32 × qm_F) :=
  if ((φ 0 2) + 20) ≤ 800 then
    qb1 (mo_puts F (qm_u φ 0 0 0) x1) fun φ1 =>
    qb1 (mo_puts F φ1 x2) fun φ2 =>
    qb1 (mo_puts F φ2 x3) fun φ3 =>
    qb1 (mo_puts F φ3 x4) fun φ4 =>
    qb1 (mo_puts F φ4 x5) fun φ5 =>
    some (φ5 0 2, φ5)
  else
    some ((-1), (qm_u φ 0 0 0))
set_option maxRecDepth 100000 in
theorem mo_feed_n (F d : Nat) (φ : qm_F) (x1 : Int32) (x2 : Int32) (x3 : Int32) (x4 : Int32) (x5 : Int32) (r : (Int32 × qm_F)) (hd : 1 ≤ d) (hs : mo_feed F φ x1 x2 x3 x4 x5 = some r) : qm_Rn d 33 0 [.ref 0, .int x1, .int x2, .int x3, .int x4, .int x5] [] (mw φ) (some (.int r.1), mw r.2) := by
  obtain ⟨d, rfl⟩ : ∃ e, d = e + 1 := ⟨d - 1, by omega⟩
  have hC := qC_33
  unfold mo_feed at hs
  refine qr_s hC (n := 8) (pc' := 15) (ls' := [.ref 0, .int x1, .int x2, .int x3, .int x4, .int x5]) (st' := [.int 800, .int ((φ 0 2) + 20)]) (h' := mw (qm_u φ 0 0 0)) rfl ?_
  refine qr_le2 (tgt := 20) hC rfl (by decide) rfl (fun hc => ?_) (fun hc => ?_)
  · rw [if_pos hc] at hs
    refine qr_s hC (n := 2) (pc' := 22) (ls' := [.ref 0, .int x1, .int x2, .int x3, .int x4, .int x5]) (st' := [.int x1, .ref 0]) (h' := mw (qm_u φ 0 0 0)) rfl ?_
    obtain ⟨φ1, hy, hs⟩ := qb1_s hs
    refine qr_c (j := 32) (as := [.ref 0, .int x1]) (rest := []) (v := none) (h1 := mw φ1) hC rfl rfl qC_32 rfl rfl (mo_puts_n F d (qm_u φ 0 0 0) x1 _ (by omega) hy) ?_
    show qm_Rn (d + 1) 33 25 [.ref 0, .int x1, .int x2, .int x3, .int x4, .int x5] [] (mw φ1) _
    refine qr_s hC (n := 2) (pc' := 27) (ls' := [.ref 0, .int x1, .int x2, .int x3, .int x4, .int x5]) (st' := [.int x2, .ref 0]) (h' := mw φ1) rfl ?_
    obtain ⟨φ2, hy, hs⟩ := qb1_s hs
    refine qr_c (j := 32) (as := [.ref 0, .int x2]) (rest := []) (v := none) (h1 := mw φ2) hC rfl rfl qC_32 rfl rfl (mo_puts_n F d φ1 x2 _ (by omega) hy) ?_
    show qm_Rn (d + 1) 33 30 [.ref 0, .int x1, .int x2, .int x3, .int x4, .int x5] [] (mw φ2) _
    refine qr_s hC (n := 2) (pc' := 32) (ls' := [.ref 0, .int x1, .int x2, .int x3, .int x4, .int x5]) (st' := [.int x3, .ref 0]) (h' := mw φ2) rfl ?_
    obtain ⟨φ3, hy, hs⟩ := qb1_s hs
    refine qr_c (j := 32) (as := [.ref 0, .int x3]) (rest := []) (v := none) (h1 := mw φ3) hC rfl rfl qC_32 rfl rfl (mo_puts_n F d φ2 x3 _ (by omega) hy) ?_
    show qm_Rn (d + 1) 33 35 [.ref 0, .int x1, .int x2, .int x3, .int x4, .int x5] [] (mw φ3) _
    refine qr_s hC (n := 2) (pc' := 38) (ls' := [.ref 0, .int x1, .int x2, .int x3, .int x4, .int x5]) (st' := [.int x4, .ref 0]) (h' := mw φ3) rfl ?_
    obtain ⟨φ4, hy, hs⟩ := qb1_s hs
    refine qr_c (j := 32) (as := [.ref 0, .int x4]) (rest := []) (v := none) (h1 := mw φ4) hC rfl rfl qC_32 rfl rfl (mo_puts_n F d φ3 x4 _ (by omega) hy) ?_
    show qm_Rn (d + 1) 33 41 [.ref 0, .int x1, .int x2, .int x3, .int x4, .int x5] [] (mw φ4) _
    refine qr_s hC (n := 2) (pc' := 44) (ls' := [.ref 0, .int x1, .int x2, .int x3, .int x4, .int x5]) (st' := [.int x5, .ref 0]) (h' := mw φ4) rfl ?_
    obtain ⟨φ5, hy, hs⟩ := qb1_s hs
    refine qr_c (j := 32) (as := [.ref 0, .int x5]) (rest := []) (v := none) (h1 := mw φ5) hC rfl rfl qC_32 rfl rfl (mo_puts_n F d φ4 x5 _ (by omega) hy) ?_
    show qm_Rn (d + 1) 33 47 [.ref 0, .int x1, .int x2, .int x3, .int x4, .int x5] [] (mw φ5) _
    refine qr_s hC (n := 2) (pc' := 51) (ls' := [.ref 0, .int x1, .int x2, .int x3, .int x4, .int x5]) (st' := [.int (φ5 0 2)]) (h' := mw φ5) rfl ?_
    have hs := Option.some.inj hs
    subst hs
    exact qr_r hC rfl rfl
  · rw [if_neg hc] at hs
    refine qr_s hC (n := 1) (pc' := 19) (ls' := [.ref 0, .int x1, .int x2, .int x3, .int x4, .int x5]) (st' := [.int (-1)]) (h' := mw (qm_u φ 0 0 0)) rfl ?_
    have hs := Option.some.inj hs
    subst hs
    exact qr_r hC rfl rfl
/-- SketchFillerModel.see(I)I -/
def mo_see (F : Nat) (φ : qm_F) (x1 : Int32) : Option Int32 :=
  if (φ 0 3) ≤ x1 then
    some (-1)
  else
    qg (qm_in x1 800) <|
    some ((φ 1 x1.toNatClampNeg) &&& 255)
set_option maxRecDepth 100000 in
theorem mo_see_n (F d : Nat) (φ : qm_F) (x1 : Int32) (r : Int32) (hd : 0 ≤ d) (hs : mo_see F φ x1 = some r) : qm_Rn d 34 0 [.ref 0, .int x1] [] (mw φ) (some (.int r), mw φ) := by
  have hC := qC_34
  unfold mo_see at hs
  refine qr_s hC (n := 3) (pc' := 5) (ls' := [.ref 0, .int x1]) (st' := [.int (φ 0 3), .int x1]) (h' := mw φ) rfl ?_
  refine qr_ge2 (tgt := 21) hC rfl (by decide) rfl (fun hc => ?_) (fun hc => ?_)
  · rw [if_pos hc] at hs
    refine qr_s hC (n := 1) (pc' := 22) (ls' := [.ref 0, .int x1]) (st' := [.int (-1)]) (h' := mw φ) rfl ?_
    have hs := Option.some.inj hs
    subst hs
    exact qr_r hC rfl rfl
  · rw [if_neg hc] at hs
    refine qr_s hC (n := 3) (pc' := 13) (ls' := [.ref 0, .int x1]) (st' := [.int x1, .ref 1]) (h' := mw φ) rfl ?_
    obtain ⟨hq, hs⟩ := qg_s hs
    refine qr_ba (v := φ 1 x1.toNatClampNeg) hC rfl rfl hq rfl ?_
    refine qr_s hC (n := 3) (pc' := 22) (ls' := [.ref 0, .int x1]) (st' := [.int ((φ 1 x1.toNatClampNeg) &&& 255)]) (h' := mw φ) rfl ?_
    have hs := Option.some.inj hs
    subst hs
    exact qr_r hC rfl rfl
/-- SketchFillerModel.isSignByte(I)Z -/
def mo_isSignByte (F : Nat) (φ : qm_F) (x0 : Int32) : Option Int32 :=
  if x0 = 59 then
    some 1
  else
    if x0 = 61 then
      some 1
    else
      if x0 = 38 then
        some 1
      else
        if x0 = 124 then
          some 1
        else
          if x0 = 94 then
            some 1
          else
            if x0 = 60 then
              some 1
            else
              if x0 = 43 then
                some 1
              else
                if x0 = 45 then
                  some 1
                else
                  if x0 = 42 then
                    some 1
                  else
                    if x0 = 47 then
                      some 1
                    else
                      if x0 = 37 then
                        some 1
                      else
                        if x0 = 126 then
                          some 1
                        else
                          if x0 = 40 then
                            some 1
                          else
                            if x0 = 41 then
                              some 1
                            else
                              if x0 = 123 then
                                some 1
                              else
                                if ¬ x0 = 125 then
                                  some 0
                                else
                                  some 1
set_option maxRecDepth 100000 in
theorem mo_isSignByte_n (F d : Nat) (φ : qm_F) (x0 : Int32) (r : Int32) (hd : 0 ≤ d) (hs : mo_isSignByte F φ x0 = some r) : qm_Rn d 35 0 [.int x0] [] (mw φ) (some (.int r), mw φ) := by
  have hC := qC_35
  unfold mo_isSignByte at hs
  refine qr_s hC (n := 2) (pc' := 3) (ls' := [.int x0]) (st' := [.int 59, .int x0]) (h' := mw φ) rfl ?_
  refine qr_eq2 (tgt := 96) hC rfl (by decide) rfl (fun hc => ?_) (fun hc => ?_)
  · rw [if_pos hc] at hs
    refine qr_s hC (n := 2) (pc' := 101) (ls' := [.int x0]) (st' := [.int 1]) (h' := mw φ) rfl ?_
    have hs := Option.some.inj hs
    subst hs
    exact qr_r hC rfl rfl
  · rw [if_neg hc] at hs
    refine qr_s hC (n := 2) (pc' := 9) (ls' := [.int x0]) (st' := [.int 61, .int x0]) (h' := mw φ) rfl ?_
    refine qr_eq2 (tgt := 96) hC rfl (by decide) rfl (fun hc => ?_) (fun hc => ?_)
    · rw [if_pos hc] at hs
      refine qr_s hC (n := 2) (pc' := 101) (ls' := [.int x0]) (st' := [.int 1]) (h' := mw φ) rfl ?_
      have hs := Option.some.inj hs
      subst hs
      exact qr_r hC rfl rfl
    · rw [if_neg hc] at hs
      refine qr_s hC (n := 2) (pc' := 15) (ls' := [.int x0]) (st' := [.int 38, .int x0]) (h' := mw φ) rfl ?_
      refine qr_eq2 (tgt := 96) hC rfl (by decide) rfl (fun hc => ?_) (fun hc => ?_)
      · rw [if_pos hc] at hs
        refine qr_s hC (n := 2) (pc' := 101) (ls' := [.int x0]) (st' := [.int 1]) (h' := mw φ) rfl ?_
        have hs := Option.some.inj hs
        subst hs
        exact qr_r hC rfl rfl
      · rw [if_neg hc] at hs
        refine qr_s hC (n := 2) (pc' := 21) (ls' := [.int x0]) (st' := [.int 124, .int x0]) (h' := mw φ) rfl ?_
        refine qr_eq2 (tgt := 96) hC rfl (by decide) rfl (fun hc => ?_) (fun hc => ?_)
        · rw [if_pos hc] at hs
          refine qr_s hC (n := 2) (pc' := 101) (ls' := [.int x0]) (st' := [.int 1]) (h' := mw φ) rfl ?_
          have hs := Option.some.inj hs
          subst hs
          exact qr_r hC rfl rfl
        · rw [if_neg hc] at hs
          refine qr_s hC (n := 2) (pc' := 27) (ls' := [.int x0]) (st' := [.int 94, .int x0]) (h' := mw φ) rfl ?_
          refine qr_eq2 (tgt := 96) hC rfl (by decide) rfl (fun hc => ?_) (fun hc => ?_)
          · rw [if_pos hc] at hs
            refine qr_s hC (n := 2) (pc' := 101) (ls' := [.int x0]) (st' := [.int 1]) (h' := mw φ) rfl ?_
            have hs := Option.some.inj hs
            subst hs
            exact qr_r hC rfl rfl
          · rw [if_neg hc] at hs
            refine qr_s hC (n := 2) (pc' := 33) (ls' := [.int x0]) (st' := [.int 60, .int x0]) (h' := mw φ) rfl ?_
            refine qr_eq2 (tgt := 96) hC rfl (by decide) rfl (fun hc => ?_) (fun hc => ?_)
            · rw [if_pos hc] at hs
              refine qr_s hC (n := 2) (pc' := 101) (ls' := [.int x0]) (st' := [.int 1]) (h' := mw φ) rfl ?_
              have hs := Option.some.inj hs
              subst hs
              exact qr_r hC rfl rfl
            · rw [if_neg hc] at hs
              refine qr_s hC (n := 2) (pc' := 39) (ls' := [.int x0]) (st' := [.int 43, .int x0]) (h' := mw φ) rfl ?_
              refine qr_eq2 (tgt := 96) hC rfl (by decide) rfl (fun hc => ?_) (fun hc => ?_)
              · rw [if_pos hc] at hs
                refine qr_s hC (n := 2) (pc' := 101) (ls' := [.int x0]) (st' := [.int 1]) (h' := mw φ) rfl ?_
                have hs := Option.some.inj hs
                subst hs
                exact qr_r hC rfl rfl
              · rw [if_neg hc] at hs
                refine qr_s hC (n := 2) (pc' := 45) (ls' := [.int x0]) (st' := [.int 45, .int x0]) (h' := mw φ) rfl ?_
                refine qr_eq2 (tgt := 96) hC rfl (by decide) rfl (fun hc => ?_) (fun hc => ?_)
                · rw [if_pos hc] at hs
                  refine qr_s hC (n := 2) (pc' := 101) (ls' := [.int x0]) (st' := [.int 1]) (h' := mw φ) rfl ?_
                  have hs := Option.some.inj hs
                  subst hs
                  exact qr_r hC rfl rfl
                · rw [if_neg hc] at hs
                  refine qr_s hC (n := 2) (pc' := 51) (ls' := [.int x0]) (st' := [.int 42, .int x0]) (h' := mw φ) rfl ?_
                  refine qr_eq2 (tgt := 96) hC rfl (by decide) rfl (fun hc => ?_) (fun hc => ?_)
                  · rw [if_pos hc] at hs
                    refine qr_s hC (n := 2) (pc' := 101) (ls' := [.int x0]) (st' := [.int 1]) (h' := mw φ) rfl ?_
                    have hs := Option.some.inj hs
                    subst hs
                    exact qr_r hC rfl rfl
                  · rw [if_neg hc] at hs
                    refine qr_s hC (n := 2) (pc' := 57) (ls' := [.int x0]) (st' := [.int 47, .int x0]) (h' := mw φ) rfl ?_
                    refine qr_eq2 (tgt := 96) hC rfl (by decide) rfl (fun hc => ?_) (fun hc => ?_)
                    · rw [if_pos hc] at hs
                      refine qr_s hC (n := 2) (pc' := 101) (ls' := [.int x0]) (st' := [.int 1]) (h' := mw φ) rfl ?_
                      have hs := Option.some.inj hs
                      subst hs
                      exact qr_r hC rfl rfl
                    · rw [if_neg hc] at hs
                      refine qr_s hC (n := 2) (pc' := 63) (ls' := [.int x0]) (st' := [.int 37, .int x0]) (h' := mw φ) rfl ?_
                      refine qr_eq2 (tgt := 96) hC rfl (by decide) rfl (fun hc => ?_) (fun hc => ?_)
                      · rw [if_pos hc] at hs
                        refine qr_s hC (n := 2) (pc' := 101) (ls' := [.int x0]) (st' := [.int 1]) (h' := mw φ) rfl ?_
                        have hs := Option.some.inj hs
                        subst hs
                        exact qr_r hC rfl rfl
                      · rw [if_neg hc] at hs
                        refine qr_s hC (n := 2) (pc' := 69) (ls' := [.int x0]) (st' := [.int 126, .int x0]) (h' := mw φ) rfl ?_
                        refine qr_eq2 (tgt := 96) hC rfl (by decide) rfl (fun hc => ?_) (fun hc => ?_)
                        · rw [if_pos hc] at hs
                          refine qr_s hC (n := 2) (pc' := 101) (ls' := [.int x0]) (st' := [.int 1]) (h' := mw φ) rfl ?_
                          have hs := Option.some.inj hs
                          subst hs
                          exact qr_r hC rfl rfl
                        · rw [if_neg hc] at hs
                          refine qr_s hC (n := 2) (pc' := 75) (ls' := [.int x0]) (st' := [.int 40, .int x0]) (h' := mw φ) rfl ?_
                          refine qr_eq2 (tgt := 96) hC rfl (by decide) rfl (fun hc => ?_) (fun hc => ?_)
                          · rw [if_pos hc] at hs
                            refine qr_s hC (n := 2) (pc' := 101) (ls' := [.int x0]) (st' := [.int 1]) (h' := mw φ) rfl ?_
                            have hs := Option.some.inj hs
                            subst hs
                            exact qr_r hC rfl rfl
                          · rw [if_neg hc] at hs
                            refine qr_s hC (n := 2) (pc' := 81) (ls' := [.int x0]) (st' := [.int 41, .int x0]) (h' := mw φ) rfl ?_
                            refine qr_eq2 (tgt := 96) hC rfl (by decide) rfl (fun hc => ?_) (fun hc => ?_)
                            · rw [if_pos hc] at hs
                              refine qr_s hC (n := 2) (pc' := 101) (ls' := [.int x0]) (st' := [.int 1]) (h' := mw φ) rfl ?_
                              have hs := Option.some.inj hs
                              subst hs
                              exact qr_r hC rfl rfl
                            · rw [if_neg hc] at hs
                              refine qr_s hC (n := 2) (pc' := 87) (ls' := [.int x0]) (st' := [.int 123, .int x0]) (h' := mw φ) rfl ?_
                              refine qr_eq2 (tgt := 96) hC rfl (by decide) rfl (fun hc => ?_) (fun hc => ?_)
                              · rw [if_pos hc] at hs
                                refine qr_s hC (n := 2) (pc' := 101) (ls' := [.int x0]) (st' := [.int 1]) (h' := mw φ) rfl ?_
                                have hs := Option.some.inj hs
                                subst hs
                                exact qr_r hC rfl rfl
                              · rw [if_neg hc] at hs
                                refine qr_s hC (n := 2) (pc' := 93) (ls' := [.int x0]) (st' := [.int 125, .int x0]) (h' := mw φ) rfl ?_
                                refine qr_ne2 (tgt := 100) hC rfl (by decide) rfl (fun hc => ?_) (fun hc => ?_)
                                · rw [if_pos hc] at hs
                                  refine qr_s hC (n := 1) (pc' := 101) (ls' := [.int x0]) (st' := [.int 0]) (h' := mw φ) rfl ?_
                                  have hs := Option.some.inj hs
                                  subst hs
                                  exact qr_r hC rfl rfl
                                · rw [if_neg hc] at hs
                                  refine qr_s hC (n := 2) (pc' := 101) (ls' := [.int x0]) (st' := [.int 1]) (h' := mw φ) rfl ?_
                                  have hs := Option.some.inj hs
                                  subst hs
                                  exact qr_r hC rfl rfl
/-- SketchFillerModel.steps()V -/
def mo_steps_L139 (F : Nat) : Nat → Nat → qm_F → Int32 → Option qm_F
  | 0, _, _, _ => none
  | n + 1, t, φ, s0 =>
    if t = 0 then
      qb1 (mo_see F φ (φ 0 5)) fun y1 =>
      qb1 (mo_within F φ (Int32.toInt64 y1) 97 122) fun y2 =>
      if y2 = 0 then
        if 7 ≤ ((φ 0 5) - (φ 0 4)) then
          some (qm_u φ 0 6 4)
        else
          some (qm_u φ 0 6 1)
      else
        if 6 ≤ ((φ 0 5) - (φ 0 4)) then
          mo_steps_L139 F n 1 φ (φ 0 8)
        else
          qb1 (mo_see F φ (φ 0 5)) fun y3 =>
          mo_steps_L139 F n 1 φ (((φ 0 8) <<< (5 &&& 31)) ||| (y3 - 96))
    else
    mo_steps_L139 F n 0 (qm_u (qm_u φ 0 8 s0) 0 5 ((φ 0 5) + 1)) 0
def mo_steps_L264 (F : Nat) : Nat → Nat → qm_F → Int32 → Option qm_F
  | 0, _, _, _ => none
  | n + 1, t, φ, s0 =>
    if t = 0 then
      qb1 (mo_see F φ (φ 0 5)) fun y1 =>
      qb1 (mo_within F φ (Int32.toInt64 y1) 48 57) fun y2 =>
      if y2 = 0 then
        if 6 ≤ ((φ 0 5) - (φ 0 4)) then
          some (qm_u φ 0 6 4)
        else
          some (qm_u φ 0 6 2)
      else
        if 5 ≤ ((φ 0 5) - (φ 0 4)) then
          mo_steps_L264 F n 1 φ (φ 0 7)
        else
          qb1 (mo_see F φ (φ 0 5)) fun y3 =>
          mo_steps_L264 F n 1 φ (((10 * (φ 0 7)) + y3) - 48)
    else
    mo_steps_L264 F n 0 (qm_u (qm_u φ 0 7 s0) 0 5 ((φ 0 5) + 1)) 0
def mo_steps_L8 (F : Nat) : Nat → qm_F → Option qm_F
  | 0, _ => none
  | n + 1, φ =>
    qb1 (mo_see F φ (φ 0 4)) fun y1 =>
    if y1 = 32 then
      mo_steps_L8 F n (qm_u φ 0 4 ((φ 0 4) + 1))
    else
      qb1 (mo_see F φ (φ 0 4)) fun y2 =>
      if ¬ y2 = 10 then
        qb1 (mo_see F φ (φ 0 4)) fun y3 =>
        if ¬ y3 = (-1) then
          qb1 (mo_isSignByte F (qm_u (qm_u (qm_u (qm_u φ 0 5 ((φ 0 4) + 1)) 0 6 4) 0 7 0) 0 8 0) y3) fun y4 =>
          if y4 = 0 then
            qb1 (mo_within F (qm_u (qm_u (qm_u (qm_u φ 0 5 ((φ 0 4) + 1)) 0 6 4) 0 7 0) 0 8 0) (Int32.toInt64 y3) 97 122) fun y5 =>
            if y5 = 0 then
              qb1 (mo_within F (qm_u (qm_u (qm_u (qm_u φ 0 5 ((φ 0 4) + 1)) 0 6 4) 0 7 0) 0 8 0) (Int32.toInt64 y3) 48 57) fun y6 =>
              if y6 = 0 then
                some (qm_u (qm_u (qm_u (qm_u φ 0 5 ((φ 0 4) + 1)) 0 6 4) 0 7 0) 0 8 0)
              else
                mo_steps_L264 F F 0 (qm_u (qm_u (qm_u (qm_u (qm_u φ 0 5 ((φ 0 4) + 1)) 0 6 4) 0 7 0) 0 8 0) 0 5 (φ 0 4)) 0
            else
              mo_steps_L139 F F 0 (qm_u (qm_u (qm_u (qm_u (qm_u φ 0 5 ((φ 0 4) + 1)) 0 6 4) 0 7 0) 0 8 0) 0 5 (φ 0 4)) 0
          else
            some (qm_u (qm_u (qm_u (qm_u (qm_u φ 0 5 ((φ 0 4) + 1)) 0 6 4) 0 7 0) 0 8 0) 0 6 3)
        else
          some (qm_u (qm_u (qm_u (qm_u (qm_u (qm_u φ 0 5 ((φ 0 4) + 1)) 0 6 4) 0 7 0) 0 8 0) 0 5 (φ 0 4)) 0 6 0)
      else
        mo_steps_L8 F n (qm_u φ 0 4 ((φ 0 4) + 1))
def mo_steps (F : Nat) (φ : qm_F) : Option qm_F :=
  mo_steps_L8 F F (qm_u φ 0 4 (φ 0 5))
set_option maxRecDepth 100000 in
theorem mo_steps_L139_n0 (F d : Nat) (hd : 1 ≤ d) : ∀ (n t : Nat) (φ : qm_F) (s0 : Int32) (r : qm_F), mo_steps_L139 F n t φ s0 = some r → (t = 0 → qm_Rn d 36 139 [.ref 0, .retAddr 0] [] (mw φ) (none, mw r)) ∧ (t ≠ 0 → qm_Rn d 36 200 [.ref 0, .retAddr 0] [.int s0, .ref 0] (mw φ) (none, mw r)) := by
  obtain ⟨d, rfl⟩ : ∃ e, d = e + 1 := ⟨d - 1, by omega⟩
  have hC := qC_36
  intro n
  induction n with
  | zero => intro t φ s0 r hs; simp [mo_steps_L139] at hs
  | succ n ihh =>
    intro t φ s0 r hs
    rw [mo_steps_L139] at hs
    have ih0 : ∀ (φ : qm_F) (s0 : Int32) (r : qm_F), mo_steps_L139 F n 0 φ s0 = some r → _ := fun φ s0 r q => (ihh 0 φ s0 r q).1 rfl
    have ih1 : ∀ (φ : qm_F) (s0 : Int32) (r : qm_F), mo_steps_L139 F n 1 φ s0 = some r → _ := fun φ s0 r q => (ihh 1 φ s0 r q).2 (by decide)
    refine ⟨fun ht => ?_, fun ht => ?_⟩
    · subst ht
      rw [if_pos rfl] at hs
      refine qr_s hC (n := 3) (pc' := 144) (ls' := [.ref 0, .retAddr 0]) (st' := [.int (φ 0 5), .ref 0]) (h' := mw φ) rfl ?_
      obtain ⟨y1, hy, hs⟩ := qb1_s hs
      refine qr_c (j := 34) (as := [.ref 0, .int (φ 0 5)]) (rest := []) (v := some (.int y1)) (h1 := mw φ) hC rfl rfl qC_34 rfl rfl (mo_see_n F d φ (φ 0 5) _ (by omega) hy) ?_
      show qm_Rn (d + 1) 36 147 [.ref 0, .retAddr 0] [.int y1] (mw φ) _
      refine qr_s hC (n := 3) (pc' := 154) (ls' := [.ref 0, .retAddr 0]) (st' := [.long 122, .long 97, .long (Int32.toInt64 y1)]) (h' := mw φ) rfl ?_
      obtain ⟨y2, hy, hs⟩ := qb1_s hs
      refine qr_c (j := 31) (as := [.long (Int32.toInt64 y1), .long 97, .long 122]) (rest := []) (v := some (.int y2)) (h1 := mw φ) hC rfl rfl qC_31 rfl rfl (mo_within_n F d φ (Int32.toInt64 y1) 97 122 _ (by omega) hy) ?_
      show qm_Rn (d + 1) 36 157 [.ref 0, .retAddr 0] [.int y2] (mw φ) _
      refine qr_eq1 (tgt := 216) hC rfl (by decide) rfl (fun hc => ?_) (fun hc => ?_)
      · rw [if_pos hc] at hs
        refine qr_s hC (n := 7) (pc' := 228) (ls' := [.ref 0, .retAddr 0]) (st' := [.int 7, .int ((φ 0 5) - (φ 0 4)), .ref 0]) (h' := mw φ) rfl ?_
        refine qr_ge2 (tgt := 235) hC rfl (by decide) rfl (fun hc => ?_) (fun hc => ?_)
        · rw [if_pos hc] at hs
          refine qr_s hC (n := 3) (pc' := 364) (ls' := [.ref 0, .retAddr 0]) (st' := []) (h' := mw (qm_u φ 0 6 4)) rfl ?_
          have hs := Option.some.inj hs
          subst hs
          exact qr_r hC rfl rfl
        · rw [if_neg hc] at hs
          refine qr_s hC (n := 4) (pc' := 364) (ls' := [.ref 0, .retAddr 0]) (st' := []) (h' := mw (qm_u φ 0 6 1)) rfl ?_
          have hs := Option.some.inj hs
          subst hs
          exact qr_r hC rfl rfl
      · rw [if_neg hc] at hs
        refine qr_s hC (n := 7) (pc' := 172) (ls' := [.ref 0, .retAddr 0]) (st' := [.int 6, .int ((φ 0 5) - (φ 0 4)), .ref 0]) (h' := mw φ) rfl ?_
        refine qr_ge2 (tgt := 196) hC rfl (by decide) rfl (fun hc => ?_) (fun hc => ?_)
        · rw [if_pos hc] at hs
          refine qr_s hC (n := 2) (pc' := 200) (ls' := [.ref 0, .retAddr 0]) (st' := [.int (φ 0 8), .ref 0]) (h' := mw φ) rfl ?_
          exact (ih1 φ (φ 0 8) _ hs)
        · rw [if_neg hc] at hs
          refine qr_s hC (n := 7) (pc' := 186) (ls' := [.ref 0, .retAddr 0]) (st' := [.int (φ 0 5), .ref 0, .int ((φ 0 8) <<< (5 &&& 31)), .ref 0]) (h' := mw φ) rfl ?_
          obtain ⟨y3, hy, hs⟩ := qb1_s hs
          refine qr_c (j := 34) (as := [.ref 0, .int (φ 0 5)]) (rest := [.int ((φ 0 8) <<< (5 &&& 31)), .ref 0]) (v := some (.int y3)) (h1 := mw φ) hC rfl rfl qC_34 rfl rfl (mo_see_n F d φ (φ 0 5) _ (by omega) hy) ?_
          show qm_Rn (d + 1) 36 189 [.ref 0, .retAddr 0] [.int y3, .int ((φ 0 8) <<< (5 &&& 31)), .ref 0] (mw φ) _
          refine qr_s hC (n := 4) (pc' := 200) (ls' := [.ref 0, .retAddr 0]) (st' := [.int (((φ 0 8) <<< (5 &&& 31)) ||| (y3 - 96)), .ref 0]) (h' := mw φ) rfl ?_
          exact (ih1 φ (((φ 0 8) <<< (5 &&& 31)) ||| (y3 - 96)) _ hs)
    · have ht0 := ht
      rw [if_neg ht0] at hs
      refine qr_s hC (n := 8) (pc' := 139) (ls' := [.ref 0, .retAddr 0]) (st' := []) (h' := mw (qm_u (qm_u φ 0 8 s0) 0 5 ((φ 0 5) + 1))) rfl ?_
      exact (ih0 (qm_u (qm_u φ 0 8 s0) 0 5 ((φ 0 5) + 1)) 0 _ hs)
theorem mo_steps_L139_n_t0 (F d : Nat) (hd : 1 ≤ d) (n : Nat) (φ : qm_F) (s0 : Int32) (r : qm_F) (hs : mo_steps_L139 F n 0 φ s0 = some r) : qm_Rn d 36 139 [.ref 0, .retAddr 0] [] (mw φ) (none, mw r) := (mo_steps_L139_n0 F d hd n 0 φ s0 r hs).1 rfl
theorem mo_steps_L139_n_t1 (F d : Nat) (hd : 1 ≤ d) (n : Nat) (φ : qm_F) (s0 : Int32) (r : qm_F) (hs : mo_steps_L139 F n 1 φ s0 = some r) : qm_Rn d 36 200 [.ref 0, .retAddr 0] [.int s0, .ref 0] (mw φ) (none, mw r) := (mo_steps_L139_n0 F d hd n 1 φ s0 r hs).2 (by decide)
set_option maxRecDepth 100000 in
theorem mo_steps_L264_n0 (F d : Nat) (hd : 1 ≤ d) : ∀ (n t : Nat) (φ : qm_F) (s0 : Int32) (r : qm_F), mo_steps_L264 F n t φ s0 = some r → (t = 0 → qm_Rn d 36 264 [.ref 0, .retAddr 0] [] (mw φ) (none, mw r)) ∧ (t ≠ 0 → qm_Rn d 36 325 [.ref 0, .retAddr 0] [.int s0, .ref 0] (mw φ) (none, mw r)) := by
  obtain ⟨d, rfl⟩ : ∃ e, d = e + 1 := ⟨d - 1, by omega⟩
  have hC := qC_36
  intro n
  induction n with
  | zero => intro t φ s0 r hs; simp [mo_steps_L264] at hs
  | succ n ihh =>
    intro t φ s0 r hs
    rw [mo_steps_L264] at hs
    have ih0 : ∀ (φ : qm_F) (s0 : Int32) (r : qm_F), mo_steps_L264 F n 0 φ s0 = some r → _ := fun φ s0 r q => (ihh 0 φ s0 r q).1 rfl
    have ih1 : ∀ (φ : qm_F) (s0 : Int32) (r : qm_F), mo_steps_L264 F n 1 φ s0 = some r → _ := fun φ s0 r q => (ihh 1 φ s0 r q).2 (by decide)
    refine ⟨fun ht => ?_, fun ht => ?_⟩
    · subst ht
      rw [if_pos rfl] at hs
      refine qr_s hC (n := 3) (pc' := 269) (ls' := [.ref 0, .retAddr 0]) (st' := [.int (φ 0 5), .ref 0]) (h' := mw φ) rfl ?_
      obtain ⟨y1, hy, hs⟩ := qb1_s hs
      refine qr_c (j := 34) (as := [.ref 0, .int (φ 0 5)]) (rest := []) (v := some (.int y1)) (h1 := mw φ) hC rfl rfl qC_34 rfl rfl (mo_see_n F d φ (φ 0 5) _ (by omega) hy) ?_
      show qm_Rn (d + 1) 36 272 [.ref 0, .retAddr 0] [.int y1] (mw φ) _
      refine qr_s hC (n := 3) (pc' := 279) (ls' := [.ref 0, .retAddr 0]) (st' := [.long 57, .long 48, .long (Int32.toInt64 y1)]) (h' := mw φ) rfl ?_
      obtain ⟨y2, hy, hs⟩ := qb1_s hs
      refine qr_c (j := 31) (as := [.long (Int32.toInt64 y1), .long 48, .long 57]) (rest := []) (v := some (.int y2)) (h1 := mw φ) hC rfl rfl qC_31 rfl rfl (mo_within_n F d φ (Int32.toInt64 y1) 48 57 _ (by omega) hy) ?_
      show qm_Rn (d + 1) 36 282 [.ref 0, .retAddr 0] [.int y2] (mw φ) _
      refine qr_eq1 (tgt := 341) hC rfl (by decide) rfl (fun hc => ?_) (fun hc => ?_)
      · rw [if_pos hc] at hs
        refine qr_s hC (n := 7) (pc' := 353) (ls' := [.ref 0, .retAddr 0]) (st' := [.int 6, .int ((φ 0 5) - (φ 0 4)), .ref 0]) (h' := mw φ) rfl ?_
        refine qr_ge2 (tgt := 360) hC rfl (by decide) rfl (fun hc => ?_) (fun hc => ?_)
        · rw [if_pos hc] at hs
          refine qr_s hC (n := 2) (pc' := 364) (ls' := [.ref 0, .retAddr 0]) (st' := []) (h' := mw (qm_u φ 0 6 4)) rfl ?_
          have hs := Option.some.inj hs
          subst hs
          exact qr_r hC rfl rfl
        · rw [if_neg hc] at hs
          refine qr_s hC (n := 3) (pc' := 364) (ls' := [.ref 0, .retAddr 0]) (st' := []) (h' := mw (qm_u φ 0 6 2)) rfl ?_
          have hs := Option.some.inj hs
          subst hs
          exact qr_r hC rfl rfl
      · rw [if_neg hc] at hs
        refine qr_s hC (n := 7) (pc' := 296) (ls' := [.ref 0, .retAddr 0]) (st' := [.int 5, .int ((φ 0 5) - (φ 0 4)), .ref 0]) (h' := mw φ) rfl ?_
        refine qr_ge2 (tgt := 321) hC rfl (by decide) rfl (fun hc => ?_) (fun hc => ?_)
        · rw [if_pos hc] at hs
          refine qr_s hC (n := 2) (pc' := 325) (ls' := [.ref 0, .retAddr 0]) (st' := [.int (φ 0 7), .ref 0]) (h' := mw φ) rfl ?_
          exact (ih1 φ (φ 0 7) _ hs)
        · rw [if_neg hc] at hs
          refine qr_s hC (n := 7) (pc' := 311) (ls' := [.ref 0, .retAddr 0]) (st' := [.int (φ 0 5), .ref 0, .int (10 * (φ 0 7)), .ref 0]) (h' := mw φ) rfl ?_
          obtain ⟨y3, hy, hs⟩ := qb1_s hs
          refine qr_c (j := 34) (as := [.ref 0, .int (φ 0 5)]) (rest := [.int (10 * (φ 0 7)), .ref 0]) (v := some (.int y3)) (h1 := mw φ) hC rfl rfl qC_34 rfl rfl (mo_see_n F d φ (φ 0 5) _ (by omega) hy) ?_
          show qm_Rn (d + 1) 36 314 [.ref 0, .retAddr 0] [.int y3, .int (10 * (φ 0 7)), .ref 0] (mw φ) _
          refine qr_s hC (n := 4) (pc' := 325) (ls' := [.ref 0, .retAddr 0]) (st' := [.int (((10 * (φ 0 7)) + y3) - 48), .ref 0]) (h' := mw φ) rfl ?_
          exact (ih1 φ (((10 * (φ 0 7)) + y3) - 48) _ hs)
    · have ht0 := ht
      rw [if_neg ht0] at hs
      refine qr_s hC (n := 8) (pc' := 264) (ls' := [.ref 0, .retAddr 0]) (st' := []) (h' := mw (qm_u (qm_u φ 0 7 s0) 0 5 ((φ 0 5) + 1))) rfl ?_
      exact (ih0 (qm_u (qm_u φ 0 7 s0) 0 5 ((φ 0 5) + 1)) 0 _ hs)
theorem mo_steps_L264_n_t0 (F d : Nat) (hd : 1 ≤ d) (n : Nat) (φ : qm_F) (s0 : Int32) (r : qm_F) (hs : mo_steps_L264 F n 0 φ s0 = some r) : qm_Rn d 36 264 [.ref 0, .retAddr 0] [] (mw φ) (none, mw r) := (mo_steps_L264_n0 F d hd n 0 φ s0 r hs).1 rfl
theorem mo_steps_L264_n_t1 (F d : Nat) (hd : 1 ≤ d) (n : Nat) (φ : qm_F) (s0 : Int32) (r : qm_F) (hs : mo_steps_L264 F n 1 φ s0 = some r) : qm_Rn d 36 325 [.ref 0, .retAddr 0] [.int s0, .ref 0] (mw φ) (none, mw r) := (mo_steps_L264_n0 F d hd n 1 φ s0 r hs).2 (by decide)
set_option maxRecDepth 100000 in
theorem mo_steps_L8_n (F d : Nat) (hd : 1 ≤ d) : ∀ (n : Nat) (φ : qm_F) (r : qm_F), mo_steps_L8 F n φ = some r → qm_Rn d 36 8 [.ref 0, .retAddr 0] [] (mw φ) (none, mw r) := by
  obtain ⟨d, rfl⟩ : ∃ e, d = e + 1 := ⟨d - 1, by omega⟩
  have hC := qC_36
  intro n
  induction n with
  | zero => intro φ r hs; simp [mo_steps_L8] at hs
  | succ n ih =>
    intro φ r hs
    rw [mo_steps_L8] at hs
    refine qr_s hC (n := 3) (pc' := 13) (ls' := [.ref 0, .retAddr 0]) (st' := [.int (φ 0 4), .ref 0]) (h' := mw φ) rfl ?_
    obtain ⟨y1, hy, hs⟩ := qb1_s hs
    refine qr_c (j := 34) (as := [.ref 0, .int (φ 0 4)]) (rest := []) (v := some (.int y1)) (h1 := mw φ) hC rfl rfl qC_34 rfl rfl (mo_see_n F d φ (φ 0 4) _ (by omega) hy) ?_
    show qm_Rn (d + 1) 36 16 [.ref 0, .retAddr 0] [.int y1] (mw φ) _
    refine qr_s hC (n := 1) (pc' := 18) (ls' := [.ref 0, .retAddr 0]) (st' := [.int 32, .int y1]) (h' := mw φ) rfl ?_
    refine qr_eq2 (tgt := 34) hC rfl (by decide) rfl (fun hc => ?_) (fun hc => ?_)
    · rw [if_pos hc] at hs
      refine qr_s hC (n := 7) (pc' := 8) (ls' := [.ref 0, .retAddr 0]) (st' := []) (h' := mw (qm_u φ 0 4 ((φ 0 4) + 1))) rfl ?_
      exact ih (qm_u φ 0 4 ((φ 0 4) + 1)) _ hs
    · rw [if_neg hc] at hs
      refine qr_s hC (n := 3) (pc' := 26) (ls' := [.ref 0, .retAddr 0]) (st' := [.int (φ 0 4), .ref 0]) (h' := mw φ) rfl ?_
      obtain ⟨y2, hy, hs⟩ := qb1_s hs
      refine qr_c (j := 34) (as := [.ref 0, .int (φ 0 4)]) (rest := []) (v := some (.int y2)) (h1 := mw φ) hC rfl rfl qC_34 rfl rfl (mo_see_n F d φ (φ 0 4) _ (by omega) hy) ?_
      show qm_Rn (d + 1) 36 29 [.ref 0, .retAddr 0] [.int y2] (mw φ) _
      refine qr_s hC (n := 1) (pc' := 31) (ls' := [.ref 0, .retAddr 0]) (st' := [.int 10, .int y2]) (h' := mw φ) rfl ?_
      refine qr_ne2 (tgt := 47) hC rfl (by decide) rfl (fun hc => ?_) (fun hc => ?_)
      · rw [if_pos hc] at hs
        refine qr_s hC (n := 3) (pc' := 52) (ls' := [.ref 0, .retAddr 0]) (st' := [.int (φ 0 4), .ref 0]) (h' := mw φ) rfl ?_
        obtain ⟨y3, hy, hs⟩ := qb1_s hs
        refine qr_c (j := 34) (as := [.ref 0, .int (φ 0 4)]) (rest := []) (v := some (.int y3)) (h1 := mw φ) hC rfl rfl qC_34 rfl rfl (mo_see_n F d φ (φ 0 4) _ (by omega) hy) ?_
        show qm_Rn (d + 1) 36 55 [.ref 0, .retAddr 0] [.int y3] (mw φ) _
        refine qr_s hC (n := 18) (pc' := 83) (ls' := [.ref 0, .int y3]) (st' := [.int (-1), .int y3]) (h' := mw (qm_u (qm_u (qm_u (qm_u φ 0 5 ((φ 0 4) + 1)) 0 6 4) 0 7 0) 0 8 0)) rfl ?_
        refine qr_ne2 (tgt := 102) hC rfl (by decide) rfl (fun hc => ?_) (fun hc => ?_)
        · rw [if_pos hc] at hs
          refine qr_s hC (n := 1) (pc' := 103) (ls' := [.ref 0, .int y3]) (st' := [.int y3]) (h' := mw (qm_u (qm_u (qm_u (qm_u φ 0 5 ((φ 0 4) + 1)) 0 6 4) 0 7 0) 0 8 0)) rfl ?_
          obtain ⟨y4, hy, hs⟩ := qb1_s hs
          refine qr_c (j := 35) (as := [.int y3]) (rest := []) (v := some (.int y4)) (h1 := mw (qm_u (qm_u (qm_u (qm_u φ 0 5 ((φ 0 4) + 1)) 0 6 4) 0 7 0) 0 8 0)) hC rfl rfl qC_35 rfl rfl (mo_isSignByte_n F d (qm_u (qm_u (qm_u (qm_u φ 0 5 ((φ 0 4) + 1)) 0 6 4) 0 7 0) 0 8 0) y3 _ (by omega) hy) ?_
          show qm_Rn (d + 1) 36 106 [.ref 0, .int y3] [.int y4] (mw (qm_u (qm_u (qm_u (qm_u φ 0 5 ((φ 0 4) + 1)) 0 6 4) 0 7 0) 0 8 0)) _
          refine qr_eq1 (tgt := 117) hC rfl (by decide) rfl (fun hc => ?_) (fun hc => ?_)
          · rw [if_pos hc] at hs
            refine qr_s hC (n := 4) (pc' := 125) (ls' := [.ref 0, .int y3]) (st' := [.long 122, .long 97, .long (Int32.toInt64 y3)]) (h' := mw (qm_u (qm_u (qm_u (qm_u φ 0 5 ((φ 0 4) + 1)) 0 6 4) 0 7 0) 0 8 0)) rfl ?_
            obtain ⟨y5, hy, hs⟩ := qb1_s hs
            refine qr_c (j := 31) (as := [.long (Int32.toInt64 y3), .long 97, .long 122]) (rest := []) (v := some (.int y5)) (h1 := mw (qm_u (qm_u (qm_u (qm_u φ 0 5 ((φ 0 4) + 1)) 0 6 4) 0 7 0) 0 8 0)) hC rfl rfl qC_31 rfl rfl (mo_within_n F d (qm_u (qm_u (qm_u (qm_u φ 0 5 ((φ 0 4) + 1)) 0 6 4) 0 7 0) 0 8 0) (Int32.toInt64 y3) 97 122 _ (by omega) hy) ?_
            show qm_Rn (d + 1) 36 128 [.ref 0, .int y3] [.int y5] (mw (qm_u (qm_u (qm_u (qm_u φ 0 5 ((φ 0 4) + 1)) 0 6 4) 0 7 0) 0 8 0)) _
            refine qr_eq1 (tgt := 242) hC rfl (by decide) rfl (fun hc => ?_) (fun hc => ?_)
            · rw [if_pos hc] at hs
              refine qr_s hC (n := 4) (pc' := 250) (ls' := [.ref 0, .int y3]) (st' := [.long 57, .long 48, .long (Int32.toInt64 y3)]) (h' := mw (qm_u (qm_u (qm_u (qm_u φ 0 5 ((φ 0 4) + 1)) 0 6 4) 0 7 0) 0 8 0)) rfl ?_
              obtain ⟨y6, hy, hs⟩ := qb1_s hs
              refine qr_c (j := 31) (as := [.long (Int32.toInt64 y3), .long 48, .long 57]) (rest := []) (v := some (.int y6)) (h1 := mw (qm_u (qm_u (qm_u (qm_u φ 0 5 ((φ 0 4) + 1)) 0 6 4) 0 7 0) 0 8 0)) hC rfl rfl qC_31 rfl rfl (mo_within_n F d (qm_u (qm_u (qm_u (qm_u φ 0 5 ((φ 0 4) + 1)) 0 6 4) 0 7 0) 0 8 0) (Int32.toInt64 y3) 48 57 _ (by omega) hy) ?_
              show qm_Rn (d + 1) 36 253 [.ref 0, .int y3] [.int y6] (mw (qm_u (qm_u (qm_u (qm_u φ 0 5 ((φ 0 4) + 1)) 0 6 4) 0 7 0) 0 8 0)) _
              refine qr_eq1 (tgt := 364) hC rfl (by decide) rfl (fun hc => ?_) (fun hc => ?_)
              · rw [if_pos hc] at hs
                have hs := Option.some.inj hs
                subst hs
                exact qr_r hC rfl rfl
              · rw [if_neg hc] at hs
                refine qr_s hC (n := 4) (pc' := 264) (ls' := [.ref 0, .int y3]) (st' := []) (h' := mw (qm_u (qm_u (qm_u (qm_u (qm_u φ 0 5 ((φ 0 4) + 1)) 0 6 4) 0 7 0) 0 8 0) 0 5 (φ 0 4))) rfl ?_
                exact qr_w (a := [.ref 0, .retAddr 0]) ⟨Or.inr rfl, Or.inl rfl, trivial⟩ (mo_steps_L264_n_t0 F (d + 1) (by omega) F (qm_u (qm_u (qm_u (qm_u (qm_u φ 0 5 ((φ 0 4) + 1)) 0 6 4) 0 7 0) 0 8 0) 0 5 (φ 0 4)) 0 _ hs)
            · rw [if_neg hc] at hs
              refine qr_s hC (n := 4) (pc' := 139) (ls' := [.ref 0, .int y3]) (st' := []) (h' := mw (qm_u (qm_u (qm_u (qm_u (qm_u φ 0 5 ((φ 0 4) + 1)) 0 6 4) 0 7 0) 0 8 0) 0 5 (φ 0 4))) rfl ?_
              exact qr_w (a := [.ref 0, .retAddr 0]) ⟨Or.inr rfl, Or.inl rfl, trivial⟩ (mo_steps_L139_n_t0 F (d + 1) (by omega) F (qm_u (qm_u (qm_u (qm_u (qm_u φ 0 5 ((φ 0 4) + 1)) 0 6 4) 0 7 0) 0 8 0) 0 5 (φ 0 4)) 0 _ hs)
          · rw [if_neg hc] at hs
            refine qr_s hC (n := 4) (pc' := 364) (ls' := [.ref 0, .int y3]) (st' := []) (h' := mw (qm_u (qm_u (qm_u (qm_u (qm_u φ 0 5 ((φ 0 4) + 1)) 0 6 4) 0 7 0) 0 8 0) 0 6 3)) rfl ?_
            have hs := Option.some.inj hs
            subst hs
            exact qr_r hC rfl rfl
        · rw [if_neg hc] at hs
          refine qr_s hC (n := 8) (pc' := 364) (ls' := [.ref 0, .int y3]) (st' := []) (h' := mw (qm_u (qm_u (qm_u (qm_u (qm_u (qm_u φ 0 5 ((φ 0 4) + 1)) 0 6 4) 0 7 0) 0 8 0) 0 5 (φ 0 4)) 0 6 0)) rfl ?_
          have hs := Option.some.inj hs
          subst hs
          exact qr_r hC rfl rfl
      · rw [if_neg hc] at hs
        refine qr_s hC (n := 7) (pc' := 8) (ls' := [.ref 0, .retAddr 0]) (st' := []) (h' := mw (qm_u φ 0 4 ((φ 0 4) + 1))) rfl ?_
        exact ih (qm_u φ 0 4 ((φ 0 4) + 1)) _ hs
set_option maxRecDepth 100000 in
theorem mo_steps_n (F d : Nat) (φ : qm_F) (r : qm_F) (hd : 1 ≤ d) (hs : mo_steps F φ = some r) : qm_Rn d 36 0 [.ref 0, .retAddr 0] [] (mw φ) (none, mw r) := by
  obtain ⟨d, rfl⟩ : ∃ e, d = e + 1 := ⟨d - 1, by omega⟩
  have hC := qC_36
  unfold mo_steps at hs
  refine qr_s hC (n := 4) (pc' := 8) (ls' := [.ref 0, .retAddr 0]) (st' := []) (h' := mw (qm_u φ 0 4 (φ 0 5))) rfl ?_
  exact mo_steps_L8_n F (d + 1) (by omega) F (qm_u φ 0 4 (φ 0 5)) _ hs
/-- SketchFillerModel.must(ZI)Z -/
def mo_must_L24 (F : Nat) (φ : qm_F) : Option (Int32 × qm_F) :=
  if ¬ (φ 0 9) = 0 then
    some (0, φ)
  else
    some (1, φ)
def mo_must (F : Nat) (φ : qm_F) (x1 : Int32) (x2 : Int32) : Option (Int32 × qm_F) :=
  if ¬ (φ 0 9) = 0 then
    mo_must_L24 F φ
  else
    if ¬ x1 = 0 then
      mo_must_L24 F φ
    else
      mo_must_L24 F (qm_u (qm_u φ 0 9 x2) 0 10 (φ 0 4))
set_option maxRecDepth 100000 in
theorem mo_must_L24_n (F d : Nat) (hd : 0 ≤ d) (φ : qm_F) (r : (Int32 × qm_F)) (hs : mo_must_L24 F φ = some r) : qm_Rn d 37 24 [.ref 0, .retAddr 0, .retAddr 0] [] (mw φ) (some (.int r.1), mw r.2) := by
  have hC := qC_37
  unfold mo_must_L24 at hs
  refine qr_s hC (n := 2) (pc' := 28) (ls' := [.ref 0, .retAddr 0, .retAddr 0]) (st' := [.int (φ 0 9)]) (h' := mw φ) rfl ?_
  refine qr_ne1 (tgt := 35) hC rfl (by decide) rfl (fun hc => ?_) (fun hc => ?_)
  · rw [if_pos hc] at hs
    refine qr_s hC (n := 1) (pc' := 36) (ls' := [.ref 0, .retAddr 0, .retAddr 0]) (st' := [.int 0]) (h' := mw φ) rfl ?_
    have hs := Option.some.inj hs
    subst hs
    exact qr_r hC rfl rfl
  · rw [if_neg hc] at hs
    refine qr_s hC (n := 2) (pc' := 36) (ls' := [.ref 0, .retAddr 0, .retAddr 0]) (st' := [.int 1]) (h' := mw φ) rfl ?_
    have hs := Option.some.inj hs
    subst hs
    exact qr_r hC rfl rfl
set_option maxRecDepth 100000 in
theorem mo_must_n (F d : Nat) (φ : qm_F) (x1 : Int32) (x2 : Int32) (r : (Int32 × qm_F)) (hd : 0 ≤ d) (hs : mo_must F φ x1 x2 = some r) : qm_Rn d 37 0 [.ref 0, .int x1, .int x2] [] (mw φ) (some (.int r.1), mw r.2) := by
  have hC := qC_37
  unfold mo_must at hs
  refine qr_s hC (n := 2) (pc' := 4) (ls' := [.ref 0, .int x1, .int x2]) (st' := [.int (φ 0 9)]) (h' := mw φ) rfl ?_
  refine qr_ne1 (tgt := 24) hC rfl (by decide) rfl (fun hc => ?_) (fun hc => ?_)
  · rw [if_pos hc] at hs
    exact qr_w (a := [.ref 0, .retAddr 0, .retAddr 0]) ⟨Or.inr rfl, Or.inl rfl, Or.inl rfl, trivial⟩ (mo_must_L24_n F d (by omega) φ _ hs)
  · rw [if_neg hc] at hs
    refine qr_s hC (n := 1) (pc' := 8) (ls' := [.ref 0, .int x1, .int x2]) (st' := [.int x1]) (h' := mw φ) rfl ?_
    refine qr_ne1 (tgt := 24) hC rfl (by decide) rfl (fun hc => ?_) (fun hc => ?_)
    · rw [if_pos hc] at hs
      exact qr_w (a := [.ref 0, .retAddr 0, .retAddr 0]) ⟨Or.inr rfl, Or.inl rfl, Or.inl rfl, trivial⟩ (mo_must_L24_n F d (by omega) φ _ hs)
    · rw [if_neg hc] at hs
      refine qr_s hC (n := 7) (pc' := 24) (ls' := [.ref 0, .int x1, .int x2]) (st' := []) (h' := mw (qm_u (qm_u φ 0 9 x2) 0 10 (φ 0 4))) rfl ?_
      exact qr_w (a := [.ref 0, .retAddr 0, .retAddr 0]) ⟨Or.inr rfl, Or.inl rfl, Or.inl rfl, trivial⟩ (mo_must_L24_n F d (by omega) (qm_u (qm_u φ 0 9 x2) 0 10 (φ 0 4)) _ hs)
/-- SketchFillerModel.isSign(I)Z -/
def mo_isSign (F : Nat) (φ : qm_F) (x1 : Int32) : Option Int32 :=
  if ¬ (φ 0 6) = 3 then
    some 0
  else
    qb1 (mo_see F φ (φ 0 4)) fun y1 =>
    if ¬ y1 = x1 then
      some 0
    else
      some 1
set_option maxRecDepth 100000 in
theorem mo_isSign_n (F d : Nat) (φ : qm_F) (x1 : Int32) (r : Int32) (hd : 1 ≤ d) (hs : mo_isSign F φ x1 = some r) : qm_Rn d 38 0 [.ref 0, .int x1] [] (mw φ) (some (.int r), mw φ) := by
  obtain ⟨d, rfl⟩ : ∃ e, d = e + 1 := ⟨d - 1, by omega⟩
  have hC := qC_38
  unfold mo_isSign at hs
  refine qr_s hC (n := 3) (pc' := 5) (ls' := [.ref 0, .int x1]) (st' := [.int 3, .int (φ 0 6)]) (h' := mw φ) rfl ?_
  refine qr_ne2 (tgt := 24) hC rfl (by decide) rfl (fun hc => ?_) (fun hc => ?_)
  · rw [if_pos hc] at hs
    refine qr_s hC (n := 1) (pc' := 25) (ls' := [.ref 0, .int x1]) (st' := [.int 0]) (h' := mw φ) rfl ?_
    have hs := Option.some.inj hs
    subst hs
    exact qr_r hC rfl rfl
  · rw [if_neg hc] at hs
    refine qr_s hC (n := 3) (pc' := 13) (ls' := [.ref 0, .int x1]) (st' := [.int (φ 0 4), .ref 0]) (h' := mw φ) rfl ?_
    obtain ⟨y1, hy, hs⟩ := qb1_s hs
    refine qr_c (j := 34) (as := [.ref 0, .int (φ 0 4)]) (rest := []) (v := some (.int y1)) (h1 := mw φ) hC rfl rfl qC_34 rfl rfl (mo_see_n F d φ (φ 0 4) _ (by omega) hy) ?_
    show qm_Rn (d + 1) 38 16 [.ref 0, .int x1] [.int y1] (mw φ) _
    refine qr_s hC (n := 1) (pc' := 17) (ls' := [.ref 0, .int x1]) (st' := [.int x1, .int y1]) (h' := mw φ) rfl ?_
    refine qr_ne2 (tgt := 24) hC rfl (by decide) rfl (fun hc => ?_) (fun hc => ?_)
    · rw [if_pos hc] at hs
      refine qr_s hC (n := 1) (pc' := 25) (ls' := [.ref 0, .int x1]) (st' := [.int 0]) (h' := mw φ) rfl ?_
      have hs := Option.some.inj hs
      subst hs
      exact qr_r hC rfl rfl
    · rw [if_neg hc] at hs
      refine qr_s hC (n := 2) (pc' := 25) (ls' := [.ref 0, .int x1]) (st' := [.int 1]) (h' := mw φ) rfl ?_
      have hs := Option.some.inj hs
      subst hs
      exact qr_r hC rfl rfl
/-- SketchFillerModel.spelled(IIIIII)I -/
def mo_spelled_L73 (F : Nat) (φ : qm_F) (x5 : Int32) (s0 : Int32) : Option Int32 :=
  if x5 ≤ 0 then
    some s0
  else
    some ((s0 <<< (5 &&& 31)) ||| (x5 - 96))
def mo_spelled_L51 (F : Nat) (φ : qm_F) (x4 : Int32) (x5 : Int32) (s0 : Int32) : Option Int32 :=
  if x4 ≤ 0 then
    mo_spelled_L73 F φ x5 s0
  else
    mo_spelled_L73 F φ x5 ((s0 <<< (5 &&& 31)) ||| (x4 - 96))
def mo_spelled_L31 (F : Nat) (φ : qm_F) (x3 : Int32) (x4 : Int32) (x5 : Int32) (s0 : Int32) : Option Int32 :=
  if x3 ≤ 0 then
    mo_spelled_L51 F φ x4 x5 s0
  else
    mo_spelled_L51 F φ x4 x5 ((s0 <<< (5 &&& 31)) ||| (x3 - 96))
def mo_spelled (F : Nat) (φ : qm_F) (x0 : Int32) (x1 : Int32) (x2 : Int32) (x3 : Int32) (x4 : Int32) (x5 : Int32) : Option Int32 :=
  if x2 ≤ 0 then
    mo_spelled_L31 F φ x3 x4 x5 (((x0 - 96) <<< (5 &&& 31)) ||| (x1 - 96))
  else
    mo_spelled_L31 F φ x3 x4 x5 (((((x0 - 96) <<< (5 &&& 31)) ||| (x1 - 96)) <<< (5 &&& 31)) ||| (x2 - 96))
set_option maxRecDepth 100000 in
theorem mo_spelled_L73_n (F d : Nat) (hd : 0 ≤ d) (φ : qm_F) (x5 : Int32) (s0 : Int32) (r : Int32) (hs : mo_spelled_L73 F φ x5 s0 = some r) : qm_Rn d 39 73 [.retAddr 0, .retAddr 0, .retAddr 0, .retAddr 0, .retAddr 0, .int x5, .retAddr 0] [.int s0] (mw φ) (some (.int r), mw φ) := by
  have hC := qC_39
  unfold mo_spelled_L73 at hs
  refine qr_s hC (n := 2) (pc' := 77) (ls' := [.retAddr 0, .retAddr 0, .retAddr 0, .retAddr 0, .retAddr 0, .int x5, .int s0]) (st' := [.int x5]) (h' := mw φ) rfl ?_
  refine qr_le1 (tgt := 93) hC rfl (by decide) rfl (fun hc => ?_) (fun hc => ?_)
  · rw [if_pos hc] at hs
    refine qr_s hC (n := 1) (pc' := 95) (ls' := [.retAddr 0, .retAddr 0, .retAddr 0, .retAddr 0, .retAddr 0, .int x5, .int s0]) (st' := [.int s0]) (h' := mw φ) rfl ?_
    have hs := Option.some.inj hs
    subst hs
    exact qr_r hC rfl rfl
  · rw [if_neg hc] at hs
    refine qr_s hC (n := 8) (pc' := 95) (ls' := [.retAddr 0, .retAddr 0, .retAddr 0, .retAddr 0, .retAddr 0, .int x5, .int s0]) (st' := [.int ((s0 <<< (5 &&& 31)) ||| (x5 - 96))]) (h' := mw φ) rfl ?_
    have hs := Option.some.inj hs
    subst hs
    exact qr_r hC rfl rfl
set_option maxRecDepth 100000 in
theorem mo_spelled_L51_n (F d : Nat) (hd : 0 ≤ d) (φ : qm_F) (x4 : Int32) (x5 : Int32) (s0 : Int32) (r : Int32) (hs : mo_spelled_L51 F φ x4 x5 s0 = some r) : qm_Rn d 39 51 [.retAddr 0, .retAddr 0, .retAddr 0, .retAddr 0, .int x4, .int x5, .retAddr 0] [.int s0] (mw φ) (some (.int r), mw φ) := by
  have hC := qC_39
  unfold mo_spelled_L51 at hs
  refine qr_s hC (n := 2) (pc' := 55) (ls' := [.retAddr 0, .retAddr 0, .retAddr 0, .retAddr 0, .int x4, .int x5, .int s0]) (st' := [.int x4]) (h' := mw φ) rfl ?_
  refine qr_le1 (tgt := 71) hC rfl (by decide) rfl (fun hc => ?_) (fun hc => ?_)
  · rw [if_pos hc] at hs
    refine qr_s hC (n := 1) (pc' := 73) (ls' := [.retAddr 0, .retAddr 0, .retAddr 0, .retAddr 0, .int x4, .int x5, .int s0]) (st' := [.int s0]) (h' := mw φ) rfl ?_
    exact qr_w (a := [.retAddr 0, .retAddr 0, .retAddr 0, .retAddr 0, .retAddr 0, .int x5, .retAddr 0]) ⟨Or.inr rfl, Or.inr rfl, Or.inr rfl, Or.inr rfl, Or.inl rfl, Or.inr rfl, Or.inl rfl, trivial⟩ (mo_spelled_L73_n F d (by omega) φ x5 s0 _ hs)
  · rw [if_neg hc] at hs
    refine qr_s hC (n := 8) (pc' := 73) (ls' := [.retAddr 0, .retAddr 0, .retAddr 0, .retAddr 0, .int x4, .int x5, .int s0]) (st' := [.int ((s0 <<< (5 &&& 31)) ||| (x4 - 96))]) (h' := mw φ) rfl ?_
    exact qr_w (a := [.retAddr 0, .retAddr 0, .retAddr 0, .retAddr 0, .retAddr 0, .int x5, .retAddr 0]) ⟨Or.inr rfl, Or.inr rfl, Or.inr rfl, Or.inr rfl, Or.inl rfl, Or.inr rfl, Or.inl rfl, trivial⟩ (mo_spelled_L73_n F d (by omega) φ x5 ((s0 <<< (5 &&& 31)) ||| (x4 - 96)) _ hs)
set_option maxRecDepth 100000 in
theorem mo_spelled_L31_n (F d : Nat) (hd : 0 ≤ d) (φ : qm_F) (x3 : Int32) (x4 : Int32) (x5 : Int32) (s0 : Int32) (r : Int32) (hs : mo_spelled_L31 F φ x3 x4 x5 s0 = some r) : qm_Rn d 39 31 [.retAddr 0, .retAddr 0, .retAddr 0, .int x3, .int x4, .int x5, .retAddr 0] [.int s0] (mw φ) (some (.int r), mw φ) := by
  have hC := qC_39
  unfold mo_spelled_L31 at hs
  refine qr_s hC (n := 2) (pc' := 34) (ls' := [.retAddr 0, .retAddr 0, .retAddr 0, .int x3, .int x4, .int x5, .int s0]) (st' := [.int x3]) (h' := mw φ) rfl ?_
  refine qr_le1 (tgt := 49) hC rfl (by decide) rfl (fun hc => ?_) (fun hc => ?_)
  · rw [if_pos hc] at hs
    refine qr_s hC (n := 1) (pc' := 51) (ls' := [.retAddr 0, .retAddr 0, .retAddr 0, .int x3, .int x4, .int x5, .int s0]) (st' := [.int s0]) (h' := mw φ) rfl ?_
    exact qr_w (a := [.retAddr 0, .retAddr 0, .retAddr 0, .retAddr 0, .int x4, .int x5, .retAddr 0]) ⟨Or.inr rfl, Or.inr rfl, Or.inr rfl, Or.inl rfl, Or.inr rfl, Or.inr rfl, Or.inl rfl, trivial⟩ (mo_spelled_L51_n F d (by omega) φ x4 x5 s0 _ hs)
  · rw [if_neg hc] at hs
    refine qr_s hC (n := 8) (pc' := 51) (ls' := [.retAddr 0, .retAddr 0, .retAddr 0, .int x3, .int x4, .int x5, .int s0]) (st' := [.int ((s0 <<< (5 &&& 31)) ||| (x3 - 96))]) (h' := mw φ) rfl ?_
    exact qr_w (a := [.retAddr 0, .retAddr 0, .retAddr 0, .retAddr 0, .int x4, .int x5, .retAddr 0]) ⟨Or.inr rfl, Or.inr rfl, Or.inr rfl, Or.inl rfl, Or.inr rfl, Or.inr rfl, Or.inl rfl, trivial⟩ (mo_spelled_L51_n F d (by omega) φ x4 x5 ((s0 <<< (5 &&& 31)) ||| (x3 - 96)) _ hs)
set_option maxRecDepth 100000 in
theorem mo_spelled_n (F d : Nat) (φ : qm_F) (x0 : Int32) (x1 : Int32) (x2 : Int32) (x3 : Int32) (x4 : Int32) (x5 : Int32) (r : Int32) (hd : 0 ≤ d) (hs : mo_spelled F φ x0 x1 x2 x3 x4 x5 = some r) : qm_Rn d 39 0 [.int x0, .int x1, .int x2, .int x3, .int x4, .int x5, .retAddr 0] [] (mw φ) (some (.int r), mw φ) := by
  have hC := qC_39
  unfold mo_spelled at hs
  refine qr_s hC (n := 11) (pc' := 14) (ls' := [.int x0, .int x1, .int x2, .int x3, .int x4, .int x5, .int (((x0 - 96) <<< (5 &&& 31)) ||| (x1 - 96))]) (st' := [.int x2]) (h' := mw φ) rfl ?_
  refine qr_le1 (tgt := 29) hC rfl (by decide) rfl (fun hc => ?_) (fun hc => ?_)
  · rw [if_pos hc] at hs
    refine qr_s hC (n := 1) (pc' := 31) (ls' := [.int x0, .int x1, .int x2, .int x3, .int x4, .int x5, .int (((x0 - 96) <<< (5 &&& 31)) ||| (x1 - 96))]) (st' := [.int (((x0 - 96) <<< (5 &&& 31)) ||| (x1 - 96))]) (h' := mw φ) rfl ?_
    exact qr_w (a := [.retAddr 0, .retAddr 0, .retAddr 0, .int x3, .int x4, .int x5, .retAddr 0]) ⟨Or.inl rfl, Or.inl rfl, Or.inl rfl, Or.inr rfl, Or.inr rfl, Or.inr rfl, Or.inl rfl, trivial⟩ (mo_spelled_L31_n F d (by omega) φ x3 x4 x5 (((x0 - 96) <<< (5 &&& 31)) ||| (x1 - 96)) _ hs)
  · rw [if_neg hc] at hs
    refine qr_s hC (n := 8) (pc' := 31) (ls' := [.int x0, .int x1, .int x2, .int x3, .int x4, .int x5, .int (((x0 - 96) <<< (5 &&& 31)) ||| (x1 - 96))]) (st' := [.int (((((x0 - 96) <<< (5 &&& 31)) ||| (x1 - 96)) <<< (5 &&& 31)) ||| (x2 - 96))]) (h' := mw φ) rfl ?_
    exact qr_w (a := [.retAddr 0, .retAddr 0, .retAddr 0, .int x3, .int x4, .int x5, .retAddr 0]) ⟨Or.inl rfl, Or.inl rfl, Or.inl rfl, Or.inr rfl, Or.inr rfl, Or.inr rfl, Or.inl rfl, trivial⟩ (mo_spelled_L31_n F d (by omega) φ x3 x4 x5 (((((x0 - 96) <<< (5 &&& 31)) ||| (x1 - 96)) <<< (5 &&& 31)) ||| (x2 - 96)) _ hs)
/-- SketchFillerModel.own()I -/
def mo_own (F : Nat) (φ : qm_F) : Option Int32 :=
  if (φ 0 6) = 1 then
    qb1 (mo_spelled F φ 115 107 101 116 99 104) fun y1 =>
    if ¬ (φ 0 8) = y1 then
      qb1 (mo_spelled F φ 105 110 0 0 0 0) fun y2 =>
      if ¬ (φ 0 8) = y2 then
        qb1 (mo_spelled F φ 104 111 108 101 0 0) fun y3 =>
        if ¬ (φ 0 8) = y3 then
          qb1 (mo_spelled F φ 114 97 110 107 0 0) fun y4 =>
          if ¬ (φ 0 8) = y4 then
            qb1 (mo_spelled F φ 118 97 114 0 0 0) fun y5 =>
            if ¬ (φ 0 8) = y5 then
              qb1 (mo_spelled F φ 109 117 115 116 0 0) fun y6 =>
              if ¬ (φ 0 8) = y6 then
                qb1 (mo_spelled F φ 105 102 0 0 0 0) fun y7 =>
                if ¬ (φ 0 8) = y7 then
                  qb1 (mo_spelled F φ 101 108 115 101 0 0) fun y8 =>
                  if ¬ (φ 0 8) = y8 then
                    qb1 (mo_spelled F φ 108 111 111 112 0 0) fun y9 =>
                    if ¬ (φ 0 8) = y9 then
                      qb1 (mo_spelled F φ 119 104 105 108 101 0) fun y10 =>
                      if ¬ (φ 0 8) = y10 then
                        qb1 (mo_spelled F φ 109 111 115 116 0 0) fun y11 =>
                        if ¬ (φ 0 8) = y11 then
                          qb1 (mo_spelled F φ 108 101 116 0 0 0) fun y12 =>
                          if ¬ (φ 0 8) = y12 then
                            qb1 (mo_spelled F φ 115 112 101 99 0 0) fun y13 =>
                            if ¬ (φ 0 8) = y13 then
                              some (-1)
                            else
                              some 12
                          else
                            some 11
                        else
                          some 10
                      else
                        some 9
                    else
                      some 8
                  else
                    some 7
                else
                  some 6
              else
                some 5
            else
              some 4
          else
            some 3
        else
          some 2
      else
        some 1
    else
      some 0
  else
    some (-1)
set_option maxRecDepth 100000 in
theorem mo_own_n (F d : Nat) (φ : qm_F) (r : Int32) (hd : 1 ≤ d) (hs : mo_own F φ = some r) : qm_Rn d 40 0 [.ref 0] [] (mw φ) (some (.int r), mw φ) := by
  obtain ⟨d, rfl⟩ : ∃ e, d = e + 1 := ⟨d - 1, by omega⟩
  have hC := qC_40
  unfold mo_own at hs
  refine qr_s hC (n := 3) (pc' := 5) (ls' := [.ref 0]) (st' := [.int 1, .int (φ 0 6)]) (h' := mw φ) rfl ?_
  refine qr_eq2 (tgt := 10) hC rfl (by decide) rfl (fun hc => ?_) (fun hc => ?_)
  · rw [if_pos hc] at hs
    refine qr_s hC (n := 8) (pc' := 26) (ls' := [.ref 0]) (st' := [.int 104, .int 99, .int 116, .int 101, .int 107, .int 115, .int (φ 0 8)]) (h' := mw φ) rfl ?_
    obtain ⟨y1, hy, hs⟩ := qb1_s hs
    refine qr_c (j := 39) (as := [.int 115, .int 107, .int 101, .int 116, .int 99, .int 104]) (rest := [.int (φ 0 8)]) (v := some (.int y1)) (h1 := mw φ) hC rfl rfl qC_39 rfl rfl (mo_spelled_n F d φ 115 107 101 116 99 104 _ (by omega) hy) ?_
    show qm_Rn (d + 1) 40 29 [.ref 0] [.int y1, .int (φ 0 8)] (mw φ) _
    refine qr_ne2 (tgt := 34) hC rfl (by decide) rfl (fun hc => ?_) (fun hc => ?_)
    · rw [if_pos hc] at hs
      refine qr_s hC (n := 8) (pc' := 46) (ls' := [.ref 0]) (st' := [.int 0, .int 0, .int 0, .int 0, .int 110, .int 105, .int (φ 0 8)]) (h' := mw φ) rfl ?_
      obtain ⟨y2, hy, hs⟩ := qb1_s hs
      refine qr_c (j := 39) (as := [.int 105, .int 110, .int 0, .int 0, .int 0, .int 0]) (rest := [.int (φ 0 8)]) (v := some (.int y2)) (h1 := mw φ) hC rfl rfl qC_39 rfl rfl (mo_spelled_n F d φ 105 110 0 0 0 0 _ (by omega) hy) ?_
      show qm_Rn (d + 1) 40 49 [.ref 0] [.int y2, .int (φ 0 8)] (mw φ) _
      refine qr_ne2 (tgt := 54) hC rfl (by decide) rfl (fun hc => ?_) (fun hc => ?_)
      · rw [if_pos hc] at hs
        refine qr_s hC (n := 8) (pc' := 68) (ls' := [.ref 0]) (st' := [.int 0, .int 0, .int 101, .int 108, .int 111, .int 104, .int (φ 0 8)]) (h' := mw φ) rfl ?_
        obtain ⟨y3, hy, hs⟩ := qb1_s hs
        refine qr_c (j := 39) (as := [.int 104, .int 111, .int 108, .int 101, .int 0, .int 0]) (rest := [.int (φ 0 8)]) (v := some (.int y3)) (h1 := mw φ) hC rfl rfl qC_39 rfl rfl (mo_spelled_n F d φ 104 111 108 101 0 0 _ (by omega) hy) ?_
        show qm_Rn (d + 1) 40 71 [.ref 0] [.int y3, .int (φ 0 8)] (mw φ) _
        refine qr_ne2 (tgt := 76) hC rfl (by decide) rfl (fun hc => ?_) (fun hc => ?_)
        · rw [if_pos hc] at hs
          refine qr_s hC (n := 8) (pc' := 90) (ls' := [.ref 0]) (st' := [.int 0, .int 0, .int 107, .int 110, .int 97, .int 114, .int (φ 0 8)]) (h' := mw φ) rfl ?_
          obtain ⟨y4, hy, hs⟩ := qb1_s hs
          refine qr_c (j := 39) (as := [.int 114, .int 97, .int 110, .int 107, .int 0, .int 0]) (rest := [.int (φ 0 8)]) (v := some (.int y4)) (h1 := mw φ) hC rfl rfl qC_39 rfl rfl (mo_spelled_n F d φ 114 97 110 107 0 0 _ (by omega) hy) ?_
          show qm_Rn (d + 1) 40 93 [.ref 0] [.int y4, .int (φ 0 8)] (mw φ) _
          refine qr_ne2 (tgt := 98) hC rfl (by decide) rfl (fun hc => ?_) (fun hc => ?_)
          · rw [if_pos hc] at hs
            refine qr_s hC (n := 8) (pc' := 111) (ls' := [.ref 0]) (st' := [.int 0, .int 0, .int 0, .int 114, .int 97, .int 118, .int (φ 0 8)]) (h' := mw φ) rfl ?_
            obtain ⟨y5, hy, hs⟩ := qb1_s hs
            refine qr_c (j := 39) (as := [.int 118, .int 97, .int 114, .int 0, .int 0, .int 0]) (rest := [.int (φ 0 8)]) (v := some (.int y5)) (h1 := mw φ) hC rfl rfl qC_39 rfl rfl (mo_spelled_n F d φ 118 97 114 0 0 0 _ (by omega) hy) ?_
            show qm_Rn (d + 1) 40 114 [.ref 0] [.int y5, .int (φ 0 8)] (mw φ) _
            refine qr_ne2 (tgt := 119) hC rfl (by decide) rfl (fun hc => ?_) (fun hc => ?_)
            · rw [if_pos hc] at hs
              refine qr_s hC (n := 8) (pc' := 133) (ls' := [.ref 0]) (st' := [.int 0, .int 0, .int 116, .int 115, .int 117, .int 109, .int (φ 0 8)]) (h' := mw φ) rfl ?_
              obtain ⟨y6, hy, hs⟩ := qb1_s hs
              refine qr_c (j := 39) (as := [.int 109, .int 117, .int 115, .int 116, .int 0, .int 0]) (rest := [.int (φ 0 8)]) (v := some (.int y6)) (h1 := mw φ) hC rfl rfl qC_39 rfl rfl (mo_spelled_n F d φ 109 117 115 116 0 0 _ (by omega) hy) ?_
              show qm_Rn (d + 1) 40 136 [.ref 0] [.int y6, .int (φ 0 8)] (mw φ) _
              refine qr_ne2 (tgt := 141) hC rfl (by decide) rfl (fun hc => ?_) (fun hc => ?_)
              · rw [if_pos hc] at hs
                refine qr_s hC (n := 8) (pc' := 153) (ls' := [.ref 0]) (st' := [.int 0, .int 0, .int 0, .int 0, .int 102, .int 105, .int (φ 0 8)]) (h' := mw φ) rfl ?_
                obtain ⟨y7, hy, hs⟩ := qb1_s hs
                refine qr_c (j := 39) (as := [.int 105, .int 102, .int 0, .int 0, .int 0, .int 0]) (rest := [.int (φ 0 8)]) (v := some (.int y7)) (h1 := mw φ) hC rfl rfl qC_39 rfl rfl (mo_spelled_n F d φ 105 102 0 0 0 0 _ (by omega) hy) ?_
                show qm_Rn (d + 1) 40 156 [.ref 0] [.int y7, .int (φ 0 8)] (mw φ) _
                refine qr_ne2 (tgt := 162) hC rfl (by decide) rfl (fun hc => ?_) (fun hc => ?_)
                · rw [if_pos hc] at hs
                  refine qr_s hC (n := 8) (pc' := 176) (ls' := [.ref 0]) (st' := [.int 0, .int 0, .int 101, .int 115, .int 108, .int 101, .int (φ 0 8)]) (h' := mw φ) rfl ?_
                  obtain ⟨y8, hy, hs⟩ := qb1_s hs
                  refine qr_c (j := 39) (as := [.int 101, .int 108, .int 115, .int 101, .int 0, .int 0]) (rest := [.int (φ 0 8)]) (v := some (.int y8)) (h1 := mw φ) hC rfl rfl qC_39 rfl rfl (mo_spelled_n F d φ 101 108 115 101 0 0 _ (by omega) hy) ?_
                  show qm_Rn (d + 1) 40 179 [.ref 0] [.int y8, .int (φ 0 8)] (mw φ) _
                  refine qr_ne2 (tgt := 185) hC rfl (by decide) rfl (fun hc => ?_) (fun hc => ?_)
                  · rw [if_pos hc] at hs
                    refine qr_s hC (n := 8) (pc' := 199) (ls' := [.ref 0]) (st' := [.int 0, .int 0, .int 112, .int 111, .int 111, .int 108, .int (φ 0 8)]) (h' := mw φ) rfl ?_
                    obtain ⟨y9, hy, hs⟩ := qb1_s hs
                    refine qr_c (j := 39) (as := [.int 108, .int 111, .int 111, .int 112, .int 0, .int 0]) (rest := [.int (φ 0 8)]) (v := some (.int y9)) (h1 := mw φ) hC rfl rfl qC_39 rfl rfl (mo_spelled_n F d φ 108 111 111 112 0 0 _ (by omega) hy) ?_
                    show qm_Rn (d + 1) 40 202 [.ref 0] [.int y9, .int (φ 0 8)] (mw φ) _
                    refine qr_ne2 (tgt := 208) hC rfl (by decide) rfl (fun hc => ?_) (fun hc => ?_)
                    · rw [if_pos hc] at hs
                      refine qr_s hC (n := 8) (pc' := 223) (ls' := [.ref 0]) (st' := [.int 0, .int 101, .int 108, .int 105, .int 104, .int 119, .int (φ 0 8)]) (h' := mw φ) rfl ?_
                      obtain ⟨y10, hy, hs⟩ := qb1_s hs
                      refine qr_c (j := 39) (as := [.int 119, .int 104, .int 105, .int 108, .int 101, .int 0]) (rest := [.int (φ 0 8)]) (v := some (.int y10)) (h1 := mw φ) hC rfl rfl qC_39 rfl rfl (mo_spelled_n F d φ 119 104 105 108 101 0 _ (by omega) hy) ?_
                      show qm_Rn (d + 1) 40 226 [.ref 0] [.int y10, .int (φ 0 8)] (mw φ) _
                      refine qr_ne2 (tgt := 232) hC rfl (by decide) rfl (fun hc => ?_) (fun hc => ?_)
                      · rw [if_pos hc] at hs
                        refine qr_s hC (n := 8) (pc' := 246) (ls' := [.ref 0]) (st' := [.int 0, .int 0, .int 116, .int 115, .int 111, .int 109, .int (φ 0 8)]) (h' := mw φ) rfl ?_
                        obtain ⟨y11, hy, hs⟩ := qb1_s hs
                        refine qr_c (j := 39) (as := [.int 109, .int 111, .int 115, .int 116, .int 0, .int 0]) (rest := [.int (φ 0 8)]) (v := some (.int y11)) (h1 := mw φ) hC rfl rfl qC_39 rfl rfl (mo_spelled_n F d φ 109 111 115 116 0 0 _ (by omega) hy) ?_
                        show qm_Rn (d + 1) 40 249 [.ref 0] [.int y11, .int (φ 0 8)] (mw φ) _
                        refine qr_ne2 (tgt := 255) hC rfl (by decide) rfl (fun hc => ?_) (fun hc => ?_)
                        · rw [if_pos hc] at hs
                          refine qr_s hC (n := 8) (pc' := 268) (ls' := [.ref 0]) (st' := [.int 0, .int 0, .int 0, .int 116, .int 101, .int 108, .int (φ 0 8)]) (h' := mw φ) rfl ?_
                          obtain ⟨y12, hy, hs⟩ := qb1_s hs
                          refine qr_c (j := 39) (as := [.int 108, .int 101, .int 116, .int 0, .int 0, .int 0]) (rest := [.int (φ 0 8)]) (v := some (.int y12)) (h1 := mw φ) hC rfl rfl qC_39 rfl rfl (mo_spelled_n F d φ 108 101 116 0 0 0 _ (by omega) hy) ?_
                          show qm_Rn (d + 1) 40 271 [.ref 0] [.int y12, .int (φ 0 8)] (mw φ) _
                          refine qr_ne2 (tgt := 277) hC rfl (by decide) rfl (fun hc => ?_) (fun hc => ?_)
                          · rw [if_pos hc] at hs
                            refine qr_s hC (n := 8) (pc' := 291) (ls' := [.ref 0]) (st' := [.int 0, .int 0, .int 99, .int 101, .int 112, .int 115, .int (φ 0 8)]) (h' := mw φ) rfl ?_
                            obtain ⟨y13, hy, hs⟩ := qb1_s hs
                            refine qr_c (j := 39) (as := [.int 115, .int 112, .int 101, .int 99, .int 0, .int 0]) (rest := [.int (φ 0 8)]) (v := some (.int y13)) (h1 := mw φ) hC rfl rfl qC_39 rfl rfl (mo_spelled_n F d φ 115 112 101 99 0 0 _ (by omega) hy) ?_
                            show qm_Rn (d + 1) 40 294 [.ref 0] [.int y13, .int (φ 0 8)] (mw φ) _
                            refine qr_ne2 (tgt := 302) hC rfl (by decide) rfl (fun hc => ?_) (fun hc => ?_)
                            · rw [if_pos hc] at hs
                              refine qr_s hC (n := 1) (pc' := 303) (ls' := [.ref 0]) (st' := [.int (-1)]) (h' := mw φ) rfl ?_
                              have hs := Option.some.inj hs
                              subst hs
                              exact qr_r hC rfl rfl
                            · rw [if_neg hc] at hs
                              refine qr_s hC (n := 2) (pc' := 303) (ls' := [.ref 0]) (st' := [.int 12]) (h' := mw φ) rfl ?_
                              have hs := Option.some.inj hs
                              subst hs
                              exact qr_r hC rfl rfl
                          · rw [if_neg hc] at hs
                            refine qr_s hC (n := 1) (pc' := 276) (ls' := [.ref 0]) (st' := [.int 11]) (h' := mw φ) rfl ?_
                            have hs := Option.some.inj hs
                            subst hs
                            exact qr_r hC rfl rfl
                        · rw [if_neg hc] at hs
                          refine qr_s hC (n := 1) (pc' := 254) (ls' := [.ref 0]) (st' := [.int 10]) (h' := mw φ) rfl ?_
                          have hs := Option.some.inj hs
                          subst hs
                          exact qr_r hC rfl rfl
                      · rw [if_neg hc] at hs
                        refine qr_s hC (n := 1) (pc' := 231) (ls' := [.ref 0]) (st' := [.int 9]) (h' := mw φ) rfl ?_
                        have hs := Option.some.inj hs
                        subst hs
                        exact qr_r hC rfl rfl
                    · rw [if_neg hc] at hs
                      refine qr_s hC (n := 1) (pc' := 207) (ls' := [.ref 0]) (st' := [.int 8]) (h' := mw φ) rfl ?_
                      have hs := Option.some.inj hs
                      subst hs
                      exact qr_r hC rfl rfl
                  · rw [if_neg hc] at hs
                    refine qr_s hC (n := 1) (pc' := 184) (ls' := [.ref 0]) (st' := [.int 7]) (h' := mw φ) rfl ?_
                    have hs := Option.some.inj hs
                    subst hs
                    exact qr_r hC rfl rfl
                · rw [if_neg hc] at hs
                  refine qr_s hC (n := 1) (pc' := 161) (ls' := [.ref 0]) (st' := [.int 6]) (h' := mw φ) rfl ?_
                  have hs := Option.some.inj hs
                  subst hs
                  exact qr_r hC rfl rfl
              · rw [if_neg hc] at hs
                refine qr_s hC (n := 1) (pc' := 140) (ls' := [.ref 0]) (st' := [.int 5]) (h' := mw φ) rfl ?_
                have hs := Option.some.inj hs
                subst hs
                exact qr_r hC rfl rfl
            · rw [if_neg hc] at hs
              refine qr_s hC (n := 1) (pc' := 118) (ls' := [.ref 0]) (st' := [.int 4]) (h' := mw φ) rfl ?_
              have hs := Option.some.inj hs
              subst hs
              exact qr_r hC rfl rfl
          · rw [if_neg hc] at hs
            refine qr_s hC (n := 1) (pc' := 97) (ls' := [.ref 0]) (st' := [.int 3]) (h' := mw φ) rfl ?_
            have hs := Option.some.inj hs
            subst hs
            exact qr_r hC rfl rfl
        · rw [if_neg hc] at hs
          refine qr_s hC (n := 1) (pc' := 75) (ls' := [.ref 0]) (st' := [.int 2]) (h' := mw φ) rfl ?_
          have hs := Option.some.inj hs
          subst hs
          exact qr_r hC rfl rfl
      · rw [if_neg hc] at hs
        refine qr_s hC (n := 1) (pc' := 53) (ls' := [.ref 0]) (st' := [.int 1]) (h' := mw φ) rfl ?_
        have hs := Option.some.inj hs
        subst hs
        exact qr_r hC rfl rfl
    · rw [if_neg hc] at hs
      refine qr_s hC (n := 1) (pc' := 33) (ls' := [.ref 0]) (st' := [.int 0]) (h' := mw φ) rfl ?_
      have hs := Option.some.inj hs
      subst hs
      exact qr_r hC rfl rfl
  · rw [if_neg hc] at hs
    refine qr_s hC (n := 1) (pc' := 9) (ls' := [.ref 0]) (st' := [.int (-1)]) (h' := mw φ) rfl ?_
    have hs := Option.some.inj hs
    subst hs
    exact qr_r hC rfl rfl
/-- SketchFillerModel.isName()Z -/
def mo_isName (F : Nat) (φ : qm_F) : Option Int32 :=
  if ¬ (φ 0 6) = 1 then
    some 0
  else
    qb1 (mo_own F φ) fun y1 =>
    if 0 ≤ y1 then
      some 0
    else
      some 1
set_option maxRecDepth 100000 in
theorem mo_isName_n (F d : Nat) (φ : qm_F) (r : Int32) (hd : 2 ≤ d) (hs : mo_isName F φ = some r) : qm_Rn d 41 0 [.ref 0] [] (mw φ) (some (.int r), mw φ) := by
  obtain ⟨d, rfl⟩ : ∃ e, d = e + 1 := ⟨d - 1, by omega⟩
  have hC := qC_41
  unfold mo_isName at hs
  refine qr_s hC (n := 3) (pc' := 5) (ls' := [.ref 0]) (st' := [.int 1, .int (φ 0 6)]) (h' := mw φ) rfl ?_
  refine qr_ne2 (tgt := 19) hC rfl (by decide) rfl (fun hc => ?_) (fun hc => ?_)
  · rw [if_pos hc] at hs
    refine qr_s hC (n := 1) (pc' := 20) (ls' := [.ref 0]) (st' := [.int 0]) (h' := mw φ) rfl ?_
    have hs := Option.some.inj hs
    subst hs
    exact qr_r hC rfl rfl
  · rw [if_neg hc] at hs
    refine qr_s hC (n := 1) (pc' := 9) (ls' := [.ref 0]) (st' := [.ref 0]) (h' := mw φ) rfl ?_
    obtain ⟨y1, hy, hs⟩ := qb1_s hs
    refine qr_c (j := 40) (as := [.ref 0]) (rest := []) (v := some (.int y1)) (h1 := mw φ) hC rfl rfl qC_40 rfl rfl (mo_own_n F d φ _ (by omega) hy) ?_
    show qm_Rn (d + 1) 41 12 [.ref 0] [.int y1] (mw φ) _
    refine qr_ge1 (tgt := 19) hC rfl (by decide) rfl (fun hc => ?_) (fun hc => ?_)
    · rw [if_pos hc] at hs
      refine qr_s hC (n := 1) (pc' := 20) (ls' := [.ref 0]) (st' := [.int 0]) (h' := mw φ) rfl ?_
      have hs := Option.some.inj hs
      subst hs
      exact qr_r hC rfl rfl
    · rw [if_neg hc] at hs
      refine qr_s hC (n := 2) (pc' := 20) (ls' := [.ref 0]) (st' := [.int 1]) (h' := mw φ) rfl ?_
      have hs := Option.some.inj hs
      subst hs
      exact qr_r hC rfl rfl
/-- SketchFillerModel.takesSign(I)Z -/
def mo_takesSign (F : Nat) (φ : qm_F) (x1 : Int32) : Option (Int32 × qm_F) :=
  qb1 (mo_isSign F φ x1) fun y1 =>
  qb2 (mo_must F φ y1 1) fun y2 φ1 =>
  if ¬ y2 = 0 then
    qb1 (mo_steps F φ1) fun φ2 =>
    some (1, φ2)
  else
    some (0, φ1)
set_option maxRecDepth 100000 in
theorem mo_takesSign_n (F d : Nat) (φ : qm_F) (x1 : Int32) (r : (Int32 × qm_F)) (hd : 2 ≤ d) (hs : mo_takesSign F φ x1 = some r) : qm_Rn d 42 0 [.ref 0, .int x1] [] (mw φ) (some (.int r.1), mw r.2) := by
  obtain ⟨d, rfl⟩ : ∃ e, d = e + 1 := ⟨d - 1, by omega⟩
  have hC := qC_42
  unfold mo_takesSign at hs
  refine qr_s hC (n := 3) (pc' := 3) (ls' := [.ref 0, .int x1]) (st' := [.int x1, .ref 0, .ref 0]) (h' := mw φ) rfl ?_
  obtain ⟨y1, hy, hs⟩ := qb1_s hs
  refine qr_c (j := 38) (as := [.ref 0, .int x1]) (rest := [.ref 0]) (v := some (.int y1)) (h1 := mw φ) hC rfl rfl qC_38 rfl rfl (mo_isSign_n F d φ x1 _ (by omega) hy) ?_
  show qm_Rn (d + 1) 42 6 [.ref 0, .int x1] [.int y1, .ref 0] (mw φ) _
  refine qr_s hC (n := 1) (pc' := 7) (ls' := [.ref 0, .int x1]) (st' := [.int 1, .int y1, .ref 0]) (h' := mw φ) rfl ?_
  obtain ⟨y2, φ1, hy, hs⟩ := qb2_s hs
  refine qr_c (j := 37) (as := [.ref 0, .int y1, .int 1]) (rest := []) (v := some (.int y2)) (h1 := mw φ1) hC rfl rfl qC_37 rfl rfl (mo_must_n F d φ y1 1 _ (by omega) hy) ?_
  show qm_Rn (d + 1) 42 10 [.ref 0, .int x1] [.int y2] (mw φ1) _
  refine qr_ne1 (tgt := 15) hC rfl (by decide) rfl (fun hc => ?_) (fun hc => ?_)
  · rw [if_pos hc] at hs
    refine qr_s hC (n := 1) (pc' := 16) (ls' := [.ref 0, .int x1]) (st' := [.ref 0]) (h' := mw φ1) rfl ?_
    obtain ⟨φ2, hy, hs⟩ := qb1_s hs
    refine qr_c (j := 36) (as := [.ref 0]) (rest := []) (v := none) (h1 := mw φ2) hC rfl rfl qC_36 rfl rfl (mo_steps_n F d φ1 _ (by omega) hy) ?_
    show qm_Rn (d + 1) 42 19 [.ref 0, .int x1] [] (mw φ2) _
    refine qr_s hC (n := 1) (pc' := 20) (ls' := [.ref 0, .int x1]) (st' := [.int 1]) (h' := mw φ2) rfl ?_
    have hs := Option.some.inj hs
    subst hs
    exact qr_r hC rfl rfl
  · rw [if_neg hc] at hs
    refine qr_s hC (n := 1) (pc' := 14) (ls' := [.ref 0, .int x1]) (st' := [.int 0]) (h' := mw φ1) rfl ?_
    have hs := Option.some.inj hs
    subst hs
    exact qr_r hC rfl rfl
/-- SketchFillerModel.takesOwn(I)Z -/
def mo_takesOwn_L14 (F : Nat) (φ : qm_F) (s0 : Int32) : Option (Int32 × qm_F) :=
  qb2 (mo_must F φ s0 1) fun y1 φ1 =>
  if ¬ y1 = 0 then
    qb1 (mo_steps F φ1) fun φ2 =>
    some (1, φ2)
  else
    some (0, φ1)
def mo_takesOwn (F : Nat) (φ : qm_F) (x1 : Int32) : Option (Int32 × qm_F) :=
  qb1 (mo_own F φ) fun y1 =>
  if ¬ y1 = x1 then
    mo_takesOwn_L14 F φ 0
  else
    mo_takesOwn_L14 F φ 1
set_option maxRecDepth 100000 in
theorem mo_takesOwn_L14_n (F d : Nat) (hd : 2 ≤ d) (φ : qm_F) (s0 : Int32) (r : (Int32 × qm_F)) (hs : mo_takesOwn_L14 F φ s0 = some r) : qm_Rn d 43 14 [.ref 0, .retAddr 0] [.int s0, .ref 0] (mw φ) (some (.int r.1), mw r.2) := by
  obtain ⟨d, rfl⟩ : ∃ e, d = e + 1 := ⟨d - 1, by omega⟩
  have hC := qC_43
  unfold mo_takesOwn_L14 at hs
  refine qr_s hC (n := 1) (pc' := 15) (ls' := [.ref 0, .retAddr 0]) (st' := [.int 1, .int s0, .ref 0]) (h' := mw φ) rfl ?_
  obtain ⟨y1, φ1, hy, hs⟩ := qb2_s hs
  refine qr_c (j := 37) (as := [.ref 0, .int s0, .int 1]) (rest := []) (v := some (.int y1)) (h1 := mw φ1) hC rfl rfl qC_37 rfl rfl (mo_must_n F d φ s0 1 _ (by omega) hy) ?_
  show qm_Rn (d + 1) 43 18 [.ref 0, .retAddr 0] [.int y1] (mw φ1) _
  refine qr_ne1 (tgt := 23) hC rfl (by decide) rfl (fun hc => ?_) (fun hc => ?_)
  · rw [if_pos hc] at hs
    refine qr_s hC (n := 1) (pc' := 24) (ls' := [.ref 0, .retAddr 0]) (st' := [.ref 0]) (h' := mw φ1) rfl ?_
    obtain ⟨φ2, hy, hs⟩ := qb1_s hs
    refine qr_c (j := 36) (as := [.ref 0]) (rest := []) (v := none) (h1 := mw φ2) hC rfl rfl qC_36 rfl rfl (mo_steps_n F d φ1 _ (by omega) hy) ?_
    show qm_Rn (d + 1) 43 27 [.ref 0, .retAddr 0] [] (mw φ2) _
    refine qr_s hC (n := 1) (pc' := 28) (ls' := [.ref 0, .retAddr 0]) (st' := [.int 1]) (h' := mw φ2) rfl ?_
    have hs := Option.some.inj hs
    subst hs
    exact qr_r hC rfl rfl
  · rw [if_neg hc] at hs
    refine qr_s hC (n := 1) (pc' := 22) (ls' := [.ref 0, .retAddr 0]) (st' := [.int 0]) (h' := mw φ1) rfl ?_
    have hs := Option.some.inj hs
    subst hs
    exact qr_r hC rfl rfl
set_option maxRecDepth 100000 in
theorem mo_takesOwn_n (F d : Nat) (φ : qm_F) (x1 : Int32) (r : (Int32 × qm_F)) (hd : 2 ≤ d) (hs : mo_takesOwn F φ x1 = some r) : qm_Rn d 43 0 [.ref 0, .int x1] [] (mw φ) (some (.int r.1), mw r.2) := by
  obtain ⟨d, rfl⟩ : ∃ e, d = e + 1 := ⟨d - 1, by omega⟩
  have hC := qC_43
  unfold mo_takesOwn at hs
  refine qr_s hC (n := 2) (pc' := 2) (ls' := [.ref 0, .int x1]) (st' := [.ref 0, .ref 0]) (h' := mw φ) rfl ?_
  obtain ⟨y1, hy, hs⟩ := qb1_s hs
  refine qr_c (j := 40) (as := [.ref 0]) (rest := [.ref 0]) (v := some (.int y1)) (h1 := mw φ) hC rfl rfl qC_40 rfl rfl (mo_own_n F d φ _ (by omega) hy) ?_
  show qm_Rn (d + 1) 43 5 [.ref 0, .int x1] [.int y1, .ref 0] (mw φ) _
  refine qr_s hC (n := 1) (pc' := 6) (ls' := [.ref 0, .int x1]) (st' := [.int x1, .int y1, .ref 0]) (h' := mw φ) rfl ?_
  refine qr_ne2 (tgt := 13) hC rfl (by decide) rfl (fun hc => ?_) (fun hc => ?_)
  · rw [if_pos hc] at hs
    refine qr_s hC (n := 1) (pc' := 14) (ls' := [.ref 0, .int x1]) (st' := [.int 0, .ref 0]) (h' := mw φ) rfl ?_
    exact qr_w (a := [.ref 0, .retAddr 0]) ⟨Or.inr rfl, Or.inl rfl, trivial⟩ (mo_takesOwn_L14_n F (d + 1) (by omega) φ 0 _ hs)
  · rw [if_neg hc] at hs
    refine qr_s hC (n := 2) (pc' := 14) (ls' := [.ref 0, .int x1]) (st' := [.int 1, .ref 0]) (h' := mw φ) rfl ?_
    exact qr_w (a := [.ref 0, .retAddr 0]) ⟨Or.inr rfl, Or.inl rfl, trivial⟩ (mo_takesOwn_L14_n F (d + 1) (by omega) φ 1 _ hs)
/-- SketchFillerModel.takesNumber(II)Z -/
def mo_takesNumber_L14 (F : Nat) (φ : qm_F) (x1 : Int32) (x2 : Int32) (s0 : Int32) : Option (Int32 × qm_F) :=
  qb2 (mo_must F φ s0 1) fun y1 φ1 =>
  if y1 = 0 then
    some (0, φ1)
  else
    qb1 (mo_within F φ1 (Int32.toInt64 (φ1 0 7)) (Int32.toInt64 x1) (Int32.toInt64 x2)) fun y2 =>
    qb2 (mo_must F φ1 y2 4) fun y3 φ2 =>
    if ¬ y3 = 0 then
      qb1 (mo_steps F (qm_u φ2 0 11 (φ2 0 7))) fun φ3 =>
      some (1, φ3)
    else
      some (0, φ2)
def mo_takesNumber (F : Nat) (φ : qm_F) (x1 : Int32) (x2 : Int32) : Option (Int32 × qm_F) :=
  if ¬ (φ 0 6) = 2 then
    mo_takesNumber_L14 F φ x1 x2 0
  else
    mo_takesNumber_L14 F φ x1 x2 1
set_option maxRecDepth 100000 in
theorem mo_takesNumber_L14_n (F d : Nat) (hd : 2 ≤ d) (φ : qm_F) (x1 : Int32) (x2 : Int32) (s0 : Int32) (r : (Int32 × qm_F)) (hs : mo_takesNumber_L14 F φ x1 x2 s0 = some r) : qm_Rn d 44 14 [.ref 0, .int x1, .int x2] [.int s0, .ref 0] (mw φ) (some (.int r.1), mw r.2) := by
  obtain ⟨d, rfl⟩ : ∃ e, d = e + 1 := ⟨d - 1, by omega⟩
  have hC := qC_44
  unfold mo_takesNumber_L14 at hs
  refine qr_s hC (n := 1) (pc' := 15) (ls' := [.ref 0, .int x1, .int x2]) (st' := [.int 1, .int s0, .ref 0]) (h' := mw φ) rfl ?_
  obtain ⟨y1, φ1, hy, hs⟩ := qb2_s hs
  refine qr_c (j := 37) (as := [.ref 0, .int s0, .int 1]) (rest := []) (v := some (.int y1)) (h1 := mw φ1) hC rfl rfl qC_37 rfl rfl (mo_must_n F d φ s0 1 _ (by omega) hy) ?_
  show qm_Rn (d + 1) 44 18 [.ref 0, .int x1, .int x2] [.int y1] (mw φ1) _
  refine qr_eq1 (tgt := 41) hC rfl (by decide) rfl (fun hc => ?_) (fun hc => ?_)
  · rw [if_pos hc] at hs
    refine qr_s hC (n := 1) (pc' := 42) (ls' := [.ref 0, .int x1, .int x2]) (st' := [.int 0]) (h' := mw φ1) rfl ?_
    have hs := Option.some.inj hs
    subst hs
    exact qr_r hC rfl rfl
  · rw [if_neg hc] at hs
    refine qr_s hC (n := 8) (pc' := 31) (ls' := [.ref 0, .int x1, .int x2]) (st' := [.long (Int32.toInt64 x2), .long (Int32.toInt64 x1), .long (Int32.toInt64 (φ1 0 7)), .ref 0]) (h' := mw φ1) rfl ?_
    obtain ⟨y2, hy, hs⟩ := qb1_s hs
    refine qr_c (j := 31) (as := [.long (Int32.toInt64 (φ1 0 7)), .long (Int32.toInt64 x1), .long (Int32.toInt64 x2)]) (rest := [.ref 0]) (v := some (.int y2)) (h1 := mw φ1) hC rfl rfl qC_31 rfl rfl (mo_within_n F d φ1 (Int32.toInt64 (φ1 0 7)) (Int32.toInt64 x1) (Int32.toInt64 x2) _ (by omega) hy) ?_
    show qm_Rn (d + 1) 44 34 [.ref 0, .int x1, .int x2] [.int y2, .ref 0] (mw φ1) _
    refine qr_s hC (n := 1) (pc' := 35) (ls' := [.ref 0, .int x1, .int x2]) (st' := [.int 4, .int y2, .ref 0]) (h' := mw φ1) rfl ?_
    obtain ⟨y3, φ2, hy, hs⟩ := qb2_s hs
    refine qr_c (j := 37) (as := [.ref 0, .int y2, .int 4]) (rest := []) (v := some (.int y3)) (h1 := mw φ2) hC rfl rfl qC_37 rfl rfl (mo_must_n F d φ1 y2 4 _ (by omega) hy) ?_
    show qm_Rn (d + 1) 44 38 [.ref 0, .int x1, .int x2] [.int y3] (mw φ2) _
    refine qr_ne1 (tgt := 43) hC rfl (by decide) rfl (fun hc => ?_) (fun hc => ?_)
    · rw [if_pos hc] at hs
      refine qr_s hC (n := 5) (pc' := 52) (ls' := [.ref 0, .int x1, .int x2]) (st' := [.ref 0]) (h' := mw (qm_u φ2 0 11 (φ2 0 7))) rfl ?_
      obtain ⟨φ3, hy, hs⟩ := qb1_s hs
      refine qr_c (j := 36) (as := [.ref 0]) (rest := []) (v := none) (h1 := mw φ3) hC rfl rfl qC_36 rfl rfl (mo_steps_n F d (qm_u φ2 0 11 (φ2 0 7)) _ (by omega) hy) ?_
      show qm_Rn (d + 1) 44 55 [.ref 0, .int x1, .int x2] [] (mw φ3) _
      refine qr_s hC (n := 1) (pc' := 56) (ls' := [.ref 0, .int x1, .int x2]) (st' := [.int 1]) (h' := mw φ3) rfl ?_
      have hs := Option.some.inj hs
      subst hs
      exact qr_r hC rfl rfl
    · rw [if_neg hc] at hs
      refine qr_s hC (n := 1) (pc' := 42) (ls' := [.ref 0, .int x1, .int x2]) (st' := [.int 0]) (h' := mw φ2) rfl ?_
      have hs := Option.some.inj hs
      subst hs
      exact qr_r hC rfl rfl
set_option maxRecDepth 100000 in
theorem mo_takesNumber_n (F d : Nat) (φ : qm_F) (x1 : Int32) (x2 : Int32) (r : (Int32 × qm_F)) (hd : 2 ≤ d) (hs : mo_takesNumber F φ x1 x2 = some r) : qm_Rn d 44 0 [.ref 0, .int x1, .int x2] [] (mw φ) (some (.int r.1), mw r.2) := by
  obtain ⟨d, rfl⟩ : ∃ e, d = e + 1 := ⟨d - 1, by omega⟩
  have hC := qC_44
  unfold mo_takesNumber at hs
  refine qr_s hC (n := 4) (pc' := 6) (ls' := [.ref 0, .int x1, .int x2]) (st' := [.int 2, .int (φ 0 6), .ref 0]) (h' := mw φ) rfl ?_
  refine qr_ne2 (tgt := 13) hC rfl (by decide) rfl (fun hc => ?_) (fun hc => ?_)
  · rw [if_pos hc] at hs
    refine qr_s hC (n := 1) (pc' := 14) (ls' := [.ref 0, .int x1, .int x2]) (st' := [.int 0, .ref 0]) (h' := mw φ) rfl ?_
    exact mo_takesNumber_L14_n F (d + 1) (by omega) φ x1 x2 0 _ hs
  · rw [if_neg hc] at hs
    refine qr_s hC (n := 2) (pc' := 14) (ls' := [.ref 0, .int x1, .int x2]) (st' := [.int 1, .ref 0]) (h' := mw φ) rfl ?_
    exact mo_takesNumber_L14_n F (d + 1) (by omega) φ x1 x2 1 _ hs
/-- SketchFillerModel.had(I)I -/
def mo_had (F : Nat) (φ : qm_F) (x1 : Int32) : Option Int32 :=
  qg (qm_in ((7 * (φ 0 13)) + x1) 14) <|
  some (φ 2 (((7 * (φ 0 13)) + x1).toNatClampNeg))
set_option maxRecDepth 100000 in
theorem mo_had_n (F d : Nat) (φ : qm_F) (x1 : Int32) (r : Int32) (hd : 0 ≤ d) (hs : mo_had F φ x1 = some r) : qm_Rn d 45 0 [.ref 0, .int x1] [] (mw φ) (some (.int r), mw φ) := by
  have hC := qC_45
  unfold mo_had at hs
  refine qr_s hC (n := 8) (pc' := 13) (ls' := [.ref 0, .int x1]) (st' := [.int ((7 * (φ 0 13)) + x1), .ref 2]) (h' := mw φ) rfl ?_
  obtain ⟨hq, hs⟩ := qg_s hs
  refine qr_ia (v := φ 2 (((7 * (φ 0 13)) + x1).toNatClampNeg)) hC rfl rfl hq rfl ?_
  have hs := Option.some.inj hs
  subst hs
  exact qr_r hC rfl rfl
/-- SketchFillerModel.tells(II)V -/
def mo_tells (F : Nat) (φ : qm_F) (x1 : Int32) (x2 : Int32) : Option qm_F :=
  qg (qm_in ((7 * (φ 0 13)) + x1) 14) <|
  some (qm_u φ 2 (((7 * (φ 0 13)) + x1).toNatClampNeg) x2)
set_option maxRecDepth 100000 in
theorem mo_tells_n (F d : Nat) (φ : qm_F) (x1 : Int32) (x2 : Int32) (r : qm_F) (hd : 0 ≤ d) (hs : mo_tells F φ x1 x2 = some r) : qm_Rn d 46 0 [.ref 0, .int x1, .int x2] [] (mw φ) (none, mw r) := by
  have hC := qC_46
  unfold mo_tells at hs
  refine qr_s hC (n := 9) (pc' := 14) (ls' := [.ref 0, .int x1, .int x2]) (st' := [.int x2, .int ((7 * (φ 0 13)) + x1), .ref 2]) (h' := mw φ) rfl ?_
  obtain ⟨hq, hs⟩ := qg_s hs
  refine qr_is (h' := mw (qm_u φ 2 (((7 * (φ 0 13)) + x1).toNatClampNeg) x2)) hC rfl rfl hq rfl ?_
  have hs := Option.some.inj hs
  subst hs
  exact qr_r hC rfl rfl
/-- SketchFillerModel.slotOf(I)I -/
def mo_slotOf_L2 (F : Nat) : Nat → qm_F → Int32 → Int32 → Option Int32
  | 0, _, _, _ => none
  | n + 1, φ, x1, x2 =>
    if 15 ≤ x2 then
      some (-1)
    else
      qg (qm_in ((15 * (φ 0 13)) + x2) 30) <|
      if ¬ (φ 3 (((15 * (φ 0 13)) + x2).toNatClampNeg)) = x1 then
        mo_slotOf_L2 F n φ x1 (x2 + 1)
      else
        some x2
def mo_slotOf (F : Nat) (φ : qm_F) (x1 : Int32) : Option Int32 :=
  mo_slotOf_L2 F F φ x1 0
set_option maxRecDepth 100000 in
theorem mo_slotOf_L2_n (F d : Nat) (hd : 0 ≤ d) : ∀ (n : Nat) (φ : qm_F) (x1 : Int32) (x2 : Int32) (r : Int32), mo_slotOf_L2 F n φ x1 x2 = some r → qm_Rn d 47 2 [.ref 0, .int x1, .int x2] [] (mw φ) (some (.int r), mw φ) := by
  have hC := qC_47
  intro n
  induction n with
  | zero => intro φ x1 x2 r hs; simp [mo_slotOf_L2] at hs
  | succ n ih =>
    intro φ x1 x2 r hs
    rw [mo_slotOf_L2] at hs
    refine qr_s hC (n := 2) (pc' := 5) (ls' := [.ref 0, .int x1, .int x2]) (st' := [.int 15, .int x2]) (h' := mw φ) rfl ?_
    refine qr_ge2 (tgt := 34) hC rfl (by decide) rfl (fun hc => ?_) (fun hc => ?_)
    · rw [if_pos hc] at hs
      refine qr_s hC (n := 1) (pc' := 35) (ls' := [.ref 0, .int x1, .int x2]) (st' := [.int (-1)]) (h' := mw φ) rfl ?_
      have hs := Option.some.inj hs
      subst hs
      exact qr_r hC rfl rfl
    · rw [if_neg hc] at hs
      refine qr_s hC (n := 8) (pc' := 21) (ls' := [.ref 0, .int x1, .int x2]) (st' := [.int ((15 * (φ 0 13)) + x2), .ref 3]) (h' := mw φ) rfl ?_
      obtain ⟨hq, hs⟩ := qg_s hs
      refine qr_ia (v := φ 3 (((15 * (φ 0 13)) + x2).toNatClampNeg)) hC rfl rfl hq rfl ?_
      refine qr_s hC (n := 1) (pc' := 23) (ls' := [.ref 0, .int x1, .int x2]) (st' := [.int x1, .int (φ 3 (((15 * (φ 0 13)) + x2).toNatClampNeg))]) (h' := mw φ) rfl ?_
      refine qr_ne2 (tgt := 28) hC rfl (by decide) rfl (fun hc => ?_) (fun hc => ?_)
      · rw [if_pos hc] at hs
        refine qr_s hC (n := 2) (pc' := 2) (ls' := [.ref 0, .int x1, .int (x2 + 1)]) (st' := []) (h' := mw φ) rfl ?_
        exact ih φ x1 (x2 + 1) _ hs
      · rw [if_neg hc] at hs
        refine qr_s hC (n := 1) (pc' := 27) (ls' := [.ref 0, .int x1, .int x2]) (st' := [.int x2]) (h' := mw φ) rfl ?_
        have hs := Option.some.inj hs
        subst hs
        exact qr_r hC rfl rfl
set_option maxRecDepth 100000 in
theorem mo_slotOf_n (F d : Nat) (φ : qm_F) (x1 : Int32) (r : Int32) (hd : 0 ≤ d) (hs : mo_slotOf F φ x1 = some r) : qm_Rn d 47 0 [.ref 0, .int x1, .retAddr 0] [] (mw φ) (some (.int r), mw φ) := by
  have hC := qC_47
  unfold mo_slotOf at hs
  refine qr_s hC (n := 2) (pc' := 2) (ls' := [.ref 0, .int x1, .int 0]) (st' := []) (h' := mw φ) rfl ?_
  exact mo_slotOf_L2_n F d (by omega) F φ x1 0 _ hs
/-- SketchFillerModel.shows()V -/
def mo_shows (F : Nat) (φ : qm_F) : Option qm_F :=
  qg (qm_in (φ 0 13) 2) <|
  qg (qm_in ((800 * (φ 0 13)) + (φ 14 ((φ 0 13).toNatClampNeg))) 1600) <|
  qg (qm_in ((800 * (φ 0 13)) + (φ 14 ((φ 0 13).toNatClampNeg))) 1600) <|
  qg (qm_in (φ 0 13) 2) <|
  qg (qm_in (φ 0 13) 2) <|
  some (qm_u (qm_u (qm_u φ 12 (((800 * (φ 0 13)) + (φ 14 ((φ 0 13).toNatClampNeg))).toNatClampNeg) (φ 0 4)) 13 (((800 * (φ 0 13)) + (φ 14 ((φ 0 13).toNatClampNeg))).toNatClampNeg) (φ 0 5)) 14 ((φ 0 13).toNatClampNeg) ((φ 14 ((φ 0 13).toNatClampNeg)) + 1))
set_option maxRecDepth 100000 in
theorem mo_shows_n (F d : Nat) (φ : qm_F) (r : qm_F) (hd : 0 ≤ d) (hs : mo_shows F φ = some r) : qm_Rn d 48 0 [.ref 0, .retAddr 0] [] (mw φ) (none, mw r) := by
  have hC := qC_48
  unfold mo_shows at hs
  refine qr_s hC (n := 8) (pc' := 16) (ls' := [.ref 0, .retAddr 0]) (st' := [.int (φ 0 13), .ref 14, .int (800 * (φ 0 13))]) (h' := mw φ) rfl ?_
  obtain ⟨hq, hs⟩ := qg_s hs
  refine qr_ia (v := φ 14 ((φ 0 13).toNatClampNeg)) hC rfl rfl hq rfl ?_
  refine qr_s hC (n := 7) (pc' := 28) (ls' := [.ref 0, .int ((800 * (φ 0 13)) + (φ 14 ((φ 0 13).toNatClampNeg)))]) (st' := [.int (φ 0 4), .int ((800 * (φ 0 13)) + (φ 14 ((φ 0 13).toNatClampNeg))), .ref 12]) (h' := mw φ) rfl ?_
  obtain ⟨hq, hs⟩ := qg_s hs
  refine qr_is (h' := mw (qm_u φ 12 (((800 * (φ 0 13)) + (φ 14 ((φ 0 13).toNatClampNeg))).toNatClampNeg) (φ 0 4))) hC rfl rfl hq rfl ?_
  refine qr_s hC (n := 5) (pc' := 38) (ls' := [.ref 0, .int ((800 * (φ 0 13)) + (φ 14 ((φ 0 13).toNatClampNeg)))]) (st' := [.int (φ 0 5), .int ((800 * (φ 0 13)) + (φ 14 ((φ 0 13).toNatClampNeg))), .ref 13]) (h' := mw (qm_u φ 12 (((800 * (φ 0 13)) + (φ 14 ((φ 0 13).toNatClampNeg))).toNatClampNeg) (φ 0 4))) rfl ?_
  obtain ⟨hq, hs⟩ := qg_s hs
  refine qr_is (h' := mw (qm_u (qm_u φ 12 (((800 * (φ 0 13)) + (φ 14 ((φ 0 13).toNatClampNeg))).toNatClampNeg) (φ 0 4)) 13 (((800 * (φ 0 13)) + (φ 14 ((φ 0 13).toNatClampNeg))).toNatClampNeg) (φ 0 5))) hC rfl rfl hq rfl ?_
  refine qr_s hC (n := 5) (pc' := 48) (ls' := [.ref 0, .int ((800 * (φ 0 13)) + (φ 14 ((φ 0 13).toNatClampNeg)))]) (st' := [.int (φ 0 13), .ref 14, .int (φ 0 13), .ref 14]) (h' := mw (qm_u (qm_u φ 12 (((800 * (φ 0 13)) + (φ 14 ((φ 0 13).toNatClampNeg))).toNatClampNeg) (φ 0 4)) 13 (((800 * (φ 0 13)) + (φ 14 ((φ 0 13).toNatClampNeg))).toNatClampNeg) (φ 0 5))) rfl ?_
  obtain ⟨hq, hs⟩ := qg_s hs
  refine qr_ia (v := φ 14 ((φ 0 13).toNatClampNeg)) hC rfl rfl hq rfl ?_
  refine qr_s hC (n := 2) (pc' := 51) (ls' := [.ref 0, .int ((800 * (φ 0 13)) + (φ 14 ((φ 0 13).toNatClampNeg)))]) (st' := [.int ((φ 14 ((φ 0 13).toNatClampNeg)) + 1), .int (φ 0 13), .ref 14]) (h' := mw (qm_u (qm_u φ 12 (((800 * (φ 0 13)) + (φ 14 ((φ 0 13).toNatClampNeg))).toNatClampNeg) (φ 0 4)) 13 (((800 * (φ 0 13)) + (φ 14 ((φ 0 13).toNatClampNeg))).toNatClampNeg) (φ 0 5))) rfl ?_
  obtain ⟨hq, hs⟩ := qg_s hs
  refine qr_is (h' := mw (qm_u (qm_u (qm_u φ 12 (((800 * (φ 0 13)) + (φ 14 ((φ 0 13).toNatClampNeg))).toNatClampNeg) (φ 0 4)) 13 (((800 * (φ 0 13)) + (φ 14 ((φ 0 13).toNatClampNeg))).toNatClampNeg) (φ 0 5)) 14 ((φ 0 13).toNatClampNeg) ((φ 14 ((φ 0 13).toNatClampNeg)) + 1))) hC rfl rfl hq rfl ?_
  have hs := Option.some.inj hs
  subst hs
  exact qr_r hC rfl rfl
/-- SketchFillerModel.codes(II)V -/
def mo_codes (F : Nat) (φ : qm_F) (x1 : Int32) (x2 : Int32) : Option qm_F :=
  qg (qm_in ((800 * (φ 0 13)) + (φ 0 21)) 1600) <|
  qg (qm_in ((800 * (φ 0 13)) + (φ 0 21)) 1600) <|
  some (qm_u (qm_u (qm_u φ 7 (((800 * (φ 0 13)) + (φ 0 21)).toNatClampNeg) x1) 8 (((800 * (φ 0 13)) + (φ 0 21)).toNatClampNeg) x2) 0 21 ((φ 0 21) + 1))
set_option maxRecDepth 100000 in
theorem mo_codes_n (F d : Nat) (φ : qm_F) (x1 : Int32) (x2 : Int32) (r : qm_F) (hd : 0 ≤ d) (hs : mo_codes F φ x1 x2 = some r) : qm_Rn d 49 0 [.ref 0, .int x1, .int x2] [] (mw φ) (none, mw r) := by
  have hC := qC_49
  unfold mo_codes at hs
  refine qr_s hC (n := 10) (pc' := 18) (ls' := [.ref 0, .int x1, .int x2]) (st' := [.int x1, .int ((800 * (φ 0 13)) + (φ 0 21)), .ref 7]) (h' := mw φ) rfl ?_
  obtain ⟨hq, hs⟩ := qg_s hs
  refine qr_is (h' := mw (qm_u φ 7 (((800 * (φ 0 13)) + (φ 0 21)).toNatClampNeg) x1)) hC rfl rfl hq rfl ?_
  refine qr_s hC (n := 10) (pc' := 37) (ls' := [.ref 0, .int x1, .int x2]) (st' := [.int x2, .int ((800 * (φ 0 13)) + (φ 0 21)), .ref 8]) (h' := mw (qm_u φ 7 (((800 * (φ 0 13)) + (φ 0 21)).toNatClampNeg) x1)) rfl ?_
  obtain ⟨hq, hs⟩ := qg_s hs
  refine qr_is (h' := mw (qm_u (qm_u φ 7 (((800 * (φ 0 13)) + (φ 0 21)).toNatClampNeg) x1) 8 (((800 * (φ 0 13)) + (φ 0 21)).toNatClampNeg) x2)) hC rfl rfl hq rfl ?_
  refine qr_s hC (n := 6) (pc' := 48) (ls' := [.ref 0, .int x1, .int x2]) (st' := []) (h' := mw (qm_u (qm_u (qm_u φ 7 (((800 * (φ 0 13)) + (φ 0 21)).toNatClampNeg) x1) 8 (((800 * (φ 0 13)) + (φ 0 21)).toNatClampNeg) x2) 0 21 ((φ 0 21) + 1))) rfl ?_
  have hs := Option.some.inj hs
  subst hs
  exact qr_r hC rfl rfl
/-- SketchFillerModel.opens()Z -/
def mo_opens_L15 (F : Nat) (φ : qm_F) (s0 : Int32) : Option (Int32 × qm_F) :=
  qb2 (mo_must F φ s0 5) fun y1 φ1 =>
  if ¬ y1 = 0 then
    qb1 (mo_steps F (qm_u φ1 0 28 ((φ1 0 28) + 1))) fun φ2 =>
    some (1, φ2)
  else
    some (0, φ1)
def mo_opens (F : Nat) (φ : qm_F) : Option (Int32 × qm_F) :=
  if 6 ≤ (φ 0 28) then
    mo_opens_L15 F φ 0
  else
    mo_opens_L15 F φ 1
set_option maxRecDepth 100000 in
theorem mo_opens_L15_n (F d : Nat) (hd : 2 ≤ d) (φ : qm_F) (s0 : Int32) (r : (Int32 × qm_F)) (hs : mo_opens_L15 F φ s0 = some r) : qm_Rn d 50 15 [.ref 0] [.int s0, .ref 0] (mw φ) (some (.int r.1), mw r.2) := by
  obtain ⟨d, rfl⟩ : ∃ e, d = e + 1 := ⟨d - 1, by omega⟩
  have hC := qC_50
  unfold mo_opens_L15 at hs
  refine qr_s hC (n := 1) (pc' := 16) (ls' := [.ref 0]) (st' := [.int 5, .int s0, .ref 0]) (h' := mw φ) rfl ?_
  obtain ⟨y1, φ1, hy, hs⟩ := qb2_s hs
  refine qr_c (j := 37) (as := [.ref 0, .int s0, .int 5]) (rest := []) (v := some (.int y1)) (h1 := mw φ1) hC rfl rfl qC_37 rfl rfl (mo_must_n F d φ s0 5 _ (by omega) hy) ?_
  show qm_Rn (d + 1) 50 19 [.ref 0] [.int y1] (mw φ1) _
  refine qr_ne1 (tgt := 24) hC rfl (by decide) rfl (fun hc => ?_) (fun hc => ?_)
  · rw [if_pos hc] at hs
    refine qr_s hC (n := 7) (pc' := 35) (ls' := [.ref 0]) (st' := [.ref 0]) (h' := mw (qm_u φ1 0 28 ((φ1 0 28) + 1))) rfl ?_
    obtain ⟨φ2, hy, hs⟩ := qb1_s hs
    refine qr_c (j := 36) (as := [.ref 0]) (rest := []) (v := none) (h1 := mw φ2) hC rfl rfl qC_36 rfl rfl (mo_steps_n F d (qm_u φ1 0 28 ((φ1 0 28) + 1)) _ (by omega) hy) ?_
    show qm_Rn (d + 1) 50 38 [.ref 0] [] (mw φ2) _
    refine qr_s hC (n := 1) (pc' := 39) (ls' := [.ref 0]) (st' := [.int 1]) (h' := mw φ2) rfl ?_
    have hs := Option.some.inj hs
    subst hs
    exact qr_r hC rfl rfl
  · rw [if_neg hc] at hs
    refine qr_s hC (n := 1) (pc' := 23) (ls' := [.ref 0]) (st' := [.int 0]) (h' := mw φ1) rfl ?_
    have hs := Option.some.inj hs
    subst hs
    exact qr_r hC rfl rfl
set_option maxRecDepth 100000 in
theorem mo_opens_n (F d : Nat) (φ : qm_F) (r : (Int32 × qm_F)) (hd : 2 ≤ d) (hs : mo_opens F φ = some r) : qm_Rn d 50 0 [.ref 0] [] (mw φ) (some (.int r.1), mw r.2) := by
  obtain ⟨d, rfl⟩ : ∃ e, d = e + 1 := ⟨d - 1, by omega⟩
  have hC := qC_50
  unfold mo_opens at hs
  refine qr_s hC (n := 4) (pc' := 7) (ls' := [.ref 0]) (st' := [.int 6, .int (φ 0 28), .ref 0]) (h' := mw φ) rfl ?_
  refine qr_ge2 (tgt := 14) hC rfl (by decide) rfl (fun hc => ?_) (fun hc => ?_)
  · rw [if_pos hc] at hs
    refine qr_s hC (n := 1) (pc' := 15) (ls' := [.ref 0]) (st' := [.int 0, .ref 0]) (h' := mw φ) rfl ?_
    exact mo_opens_L15_n F (d + 1) (by omega) φ 0 _ hs
  · rw [if_neg hc] at hs
    refine qr_s hC (n := 2) (pc' := 15) (ls' := [.ref 0]) (st' := [.int 1, .ref 0]) (h' := mw φ) rfl ?_
    exact mo_opens_L15_n F (d + 1) (by omega) φ 1 _ hs
/-- SketchFillerModel.isOf(I)Z -/
def mo_isOf (F : Nat) (φ : qm_F) (x1 : Int32) : Option Int32 :=
  if x1 = 0 then
    qb1 (mo_isSign F φ 124) fun y1 =>
    if ¬ y1 = 0 then
      some 1
    else
      qb1 (mo_isSign F φ 94) fun y2 =>
      if y2 = 0 then
        some 0
      else
        some 1
  else
  if x1 = 1 then
    qb1 (mo_isSign F φ 38) fun y3 =>
    qg (qm_bz y3) (some y3)
  else
  if x1 = 2 then
    qb1 (mo_isSign F φ 61) fun y4 =>
    if ¬ y4 = 0 then
      some 1
    else
      qb1 (mo_isSign F φ 60) fun y5 =>
      if y5 = 0 then
        some 0
      else
        some 1
  else
  if x1 = 3 then
    qb1 (mo_isSign F φ 43) fun y6 =>
    if ¬ y6 = 0 then
      some 1
    else
      qb1 (mo_isSign F φ 45) fun y7 =>
      if y7 = 0 then
        some 0
      else
        some 1
  else
  qb1 (mo_isSign F φ 42) fun y8 =>
  if ¬ y8 = 0 then
    some 1
  else
    qb1 (mo_isSign F φ 47) fun y9 =>
    if ¬ y9 = 0 then
      some 1
    else
      qb1 (mo_isSign F φ 37) fun y10 =>
      if y10 = 0 then
        some 0
      else
        some 1
set_option maxRecDepth 100000 in
theorem mo_isOf_n (F d : Nat) (φ : qm_F) (x1 : Int32) (r : Int32) (hd : 2 ≤ d) (hs : mo_isOf F φ x1 = some r) : qm_Rn d 53 0 [.ref 0, .int x1] [] (mw φ) (some (.int r), mw φ) := by
  obtain ⟨d, rfl⟩ : ∃ e, d = e + 1 := ⟨d - 1, by omega⟩
  have hC := qC_53
  unfold mo_isOf at hs
  refine qr_s hC (n := 1) (pc' := 1) (ls' := [.ref 0, .int x1]) (st' := [.int x1]) (h' := mw φ) rfl ?_
  by_cases q0 : x1 = 0
  · rw [if_pos q0] at hs
    refine qr_sw hC (tgt := 32) rfl q0 rfl ?_
    refine qr_s hC (n := 2) (pc' := 35) (ls' := [.ref 0, .int x1]) (st' := [.int 124, .ref 0]) (h' := mw φ) rfl ?_
    obtain ⟨y1, hy, hs⟩ := qb1_s hs
    refine qr_c (j := 38) (as := [.ref 0, .int 124]) (rest := []) (v := some (.int y1)) (h1 := mw φ) hC rfl rfl qC_38 rfl rfl (mo_isSign_n F d φ 124 _ (by omega) hy) ?_
    show qm_Rn (d + 1) 53 38 [.ref 0, .int x1] [.int y1] (mw φ) _
    refine qr_ne1 (tgt := 50) hC rfl (by decide) rfl (fun hc => ?_) (fun hc => ?_)
    · rw [if_pos hc] at hs
      refine qr_s hC (n := 2) (pc' := 55) (ls' := [.ref 0, .int x1]) (st' := [.int 1]) (h' := mw φ) rfl ?_
      have hs := Option.some.inj hs
      subst hs
      exact qr_r hC rfl rfl
    · rw [if_neg hc] at hs
      refine qr_s hC (n := 2) (pc' := 44) (ls' := [.ref 0, .int x1]) (st' := [.int 94, .ref 0]) (h' := mw φ) rfl ?_
      obtain ⟨y2, hy, hs⟩ := qb1_s hs
      refine qr_c (j := 38) (as := [.ref 0, .int 94]) (rest := []) (v := some (.int y2)) (h1 := mw φ) hC rfl rfl qC_38 rfl rfl (mo_isSign_n F d φ 94 _ (by omega) hy) ?_
      show qm_Rn (d + 1) 53 47 [.ref 0, .int x1] [.int y2] (mw φ) _
      refine qr_eq1 (tgt := 54) hC rfl (by decide) rfl (fun hc => ?_) (fun hc => ?_)
      · rw [if_pos hc] at hs
        refine qr_s hC (n := 1) (pc' := 55) (ls' := [.ref 0, .int x1]) (st' := [.int 0]) (h' := mw φ) rfl ?_
        have hs := Option.some.inj hs
        subst hs
        exact qr_r hC rfl rfl
      · rw [if_neg hc] at hs
        refine qr_s hC (n := 2) (pc' := 55) (ls' := [.ref 0, .int x1]) (st' := [.int 1]) (h' := mw φ) rfl ?_
        have hs := Option.some.inj hs
        subst hs
        exact qr_r hC rfl rfl
  · rw [if_neg q0] at hs
    by_cases q1 : x1 = 1
    · rw [if_pos q1] at hs
      refine qr_sw hC (tgt := 56) rfl q1 rfl ?_
      refine qr_s hC (n := 2) (pc' := 59) (ls' := [.ref 0, .int x1]) (st' := [.int 38, .ref 0]) (h' := mw φ) rfl ?_
      obtain ⟨y3, hy, hs⟩ := qb1_s hs
      refine qr_c (j := 38) (as := [.ref 0, .int 38]) (rest := []) (v := some (.int y3)) (h1 := mw φ) hC rfl rfl qC_38 rfl rfl (mo_isSign_n F d φ 38 _ (by omega) hy) ?_
      show qm_Rn (d + 1) 53 62 [.ref 0, .int x1] [.int y3] (mw φ) _
      obtain ⟨hz, hs⟩ := qg_s hs
      have hs := Option.some.inj hs
      subst hs
      exact qr_rz hC rfl hz
    · rw [if_neg q1] at hs
      by_cases q2 : x1 = 2
      · rw [if_pos q2] at hs
        refine qr_sw hC (tgt := 63) rfl q2 rfl ?_
        refine qr_s hC (n := 2) (pc' := 66) (ls' := [.ref 0, .int x1]) (st' := [.int 61, .ref 0]) (h' := mw φ) rfl ?_
        obtain ⟨y4, hy, hs⟩ := qb1_s hs
        refine qr_c (j := 38) (as := [.ref 0, .int 61]) (rest := []) (v := some (.int y4)) (h1 := mw φ) hC rfl rfl qC_38 rfl rfl (mo_isSign_n F d φ 61 _ (by omega) hy) ?_
        show qm_Rn (d + 1) 53 69 [.ref 0, .int x1] [.int y4] (mw φ) _
        refine qr_ne1 (tgt := 81) hC rfl (by decide) rfl (fun hc => ?_) (fun hc => ?_)
        · rw [if_pos hc] at hs
          refine qr_s hC (n := 2) (pc' := 86) (ls' := [.ref 0, .int x1]) (st' := [.int 1]) (h' := mw φ) rfl ?_
          have hs := Option.some.inj hs
          subst hs
          exact qr_r hC rfl rfl
        · rw [if_neg hc] at hs
          refine qr_s hC (n := 2) (pc' := 75) (ls' := [.ref 0, .int x1]) (st' := [.int 60, .ref 0]) (h' := mw φ) rfl ?_
          obtain ⟨y5, hy, hs⟩ := qb1_s hs
          refine qr_c (j := 38) (as := [.ref 0, .int 60]) (rest := []) (v := some (.int y5)) (h1 := mw φ) hC rfl rfl qC_38 rfl rfl (mo_isSign_n F d φ 60 _ (by omega) hy) ?_
          show qm_Rn (d + 1) 53 78 [.ref 0, .int x1] [.int y5] (mw φ) _
          refine qr_eq1 (tgt := 85) hC rfl (by decide) rfl (fun hc => ?_) (fun hc => ?_)
          · rw [if_pos hc] at hs
            refine qr_s hC (n := 1) (pc' := 86) (ls' := [.ref 0, .int x1]) (st' := [.int 0]) (h' := mw φ) rfl ?_
            have hs := Option.some.inj hs
            subst hs
            exact qr_r hC rfl rfl
          · rw [if_neg hc] at hs
            refine qr_s hC (n := 2) (pc' := 86) (ls' := [.ref 0, .int x1]) (st' := [.int 1]) (h' := mw φ) rfl ?_
            have hs := Option.some.inj hs
            subst hs
            exact qr_r hC rfl rfl
      · rw [if_neg q2] at hs
        by_cases q3 : x1 = 3
        · rw [if_pos q3] at hs
          refine qr_sw hC (tgt := 87) rfl q3 rfl ?_
          refine qr_s hC (n := 2) (pc' := 90) (ls' := [.ref 0, .int x1]) (st' := [.int 43, .ref 0]) (h' := mw φ) rfl ?_
          obtain ⟨y6, hy, hs⟩ := qb1_s hs
          refine qr_c (j := 38) (as := [.ref 0, .int 43]) (rest := []) (v := some (.int y6)) (h1 := mw φ) hC rfl rfl qC_38 rfl rfl (mo_isSign_n F d φ 43 _ (by omega) hy) ?_
          show qm_Rn (d + 1) 53 93 [.ref 0, .int x1] [.int y6] (mw φ) _
          refine qr_ne1 (tgt := 105) hC rfl (by decide) rfl (fun hc => ?_) (fun hc => ?_)
          · rw [if_pos hc] at hs
            refine qr_s hC (n := 2) (pc' := 110) (ls' := [.ref 0, .int x1]) (st' := [.int 1]) (h' := mw φ) rfl ?_
            have hs := Option.some.inj hs
            subst hs
            exact qr_r hC rfl rfl
          · rw [if_neg hc] at hs
            refine qr_s hC (n := 2) (pc' := 99) (ls' := [.ref 0, .int x1]) (st' := [.int 45, .ref 0]) (h' := mw φ) rfl ?_
            obtain ⟨y7, hy, hs⟩ := qb1_s hs
            refine qr_c (j := 38) (as := [.ref 0, .int 45]) (rest := []) (v := some (.int y7)) (h1 := mw φ) hC rfl rfl qC_38 rfl rfl (mo_isSign_n F d φ 45 _ (by omega) hy) ?_
            show qm_Rn (d + 1) 53 102 [.ref 0, .int x1] [.int y7] (mw φ) _
            refine qr_eq1 (tgt := 109) hC rfl (by decide) rfl (fun hc => ?_) (fun hc => ?_)
            · rw [if_pos hc] at hs
              refine qr_s hC (n := 1) (pc' := 110) (ls' := [.ref 0, .int x1]) (st' := [.int 0]) (h' := mw φ) rfl ?_
              have hs := Option.some.inj hs
              subst hs
              exact qr_r hC rfl rfl
            · rw [if_neg hc] at hs
              refine qr_s hC (n := 2) (pc' := 110) (ls' := [.ref 0, .int x1]) (st' := [.int 1]) (h' := mw φ) rfl ?_
              have hs := Option.some.inj hs
              subst hs
              exact qr_r hC rfl rfl
        · rw [if_neg q3] at hs
          have z0 : Int32.toInt x1 ≠ 0 := fun z => q0 (Int32.toInt_inj.mp (z.trans (by decide)))
          have z1 : Int32.toInt x1 ≠ 1 := fun z => q1 (Int32.toInt_inj.mp (z.trans (by decide)))
          have z2 : Int32.toInt x1 ≠ 2 := fun z => q2 (Int32.toInt_inj.mp (z.trans (by decide)))
          have z3 : Int32.toInt x1 ≠ 3 := fun z => q3 (Int32.toInt_inj.mp (z.trans (by decide)))
          refine qr_tD (tgt := 111) hC rfl (by omega) (by decide) rfl ?_
          refine qr_s hC (n := 2) (pc' := 114) (ls' := [.ref 0, .int x1]) (st' := [.int 42, .ref 0]) (h' := mw φ) rfl ?_
          obtain ⟨y8, hy, hs⟩ := qb1_s hs
          refine qr_c (j := 38) (as := [.ref 0, .int 42]) (rest := []) (v := some (.int y8)) (h1 := mw φ) hC rfl rfl qC_38 rfl rfl (mo_isSign_n F d φ 42 _ (by omega) hy) ?_
          show qm_Rn (d + 1) 53 117 [.ref 0, .int x1] [.int y8] (mw φ) _
          refine qr_ne1 (tgt := 138) hC rfl (by decide) rfl (fun hc => ?_) (fun hc => ?_)
          · rw [if_pos hc] at hs
            refine qr_s hC (n := 2) (pc' := 143) (ls' := [.ref 0, .int x1]) (st' := [.int 1]) (h' := mw φ) rfl ?_
            have hs := Option.some.inj hs
            subst hs
            exact qr_r hC rfl rfl
          · rw [if_neg hc] at hs
            refine qr_s hC (n := 2) (pc' := 123) (ls' := [.ref 0, .int x1]) (st' := [.int 47, .ref 0]) (h' := mw φ) rfl ?_
            obtain ⟨y9, hy, hs⟩ := qb1_s hs
            refine qr_c (j := 38) (as := [.ref 0, .int 47]) (rest := []) (v := some (.int y9)) (h1 := mw φ) hC rfl rfl qC_38 rfl rfl (mo_isSign_n F d φ 47 _ (by omega) hy) ?_
            show qm_Rn (d + 1) 53 126 [.ref 0, .int x1] [.int y9] (mw φ) _
            refine qr_ne1 (tgt := 138) hC rfl (by decide) rfl (fun hc => ?_) (fun hc => ?_)
            · rw [if_pos hc] at hs
              refine qr_s hC (n := 2) (pc' := 143) (ls' := [.ref 0, .int x1]) (st' := [.int 1]) (h' := mw φ) rfl ?_
              have hs := Option.some.inj hs
              subst hs
              exact qr_r hC rfl rfl
            · rw [if_neg hc] at hs
              refine qr_s hC (n := 2) (pc' := 132) (ls' := [.ref 0, .int x1]) (st' := [.int 37, .ref 0]) (h' := mw φ) rfl ?_
              obtain ⟨y10, hy, hs⟩ := qb1_s hs
              refine qr_c (j := 38) (as := [.ref 0, .int 37]) (rest := []) (v := some (.int y10)) (h1 := mw φ) hC rfl rfl qC_38 rfl rfl (mo_isSign_n F d φ 37 _ (by omega) hy) ?_
              show qm_Rn (d + 1) 53 135 [.ref 0, .int x1] [.int y10] (mw φ) _
              refine qr_eq1 (tgt := 142) hC rfl (by decide) rfl (fun hc => ?_) (fun hc => ?_)
              · rw [if_pos hc] at hs
                refine qr_s hC (n := 1) (pc' := 143) (ls' := [.ref 0, .int x1]) (st' := [.int 0]) (h' := mw φ) rfl ?_
                have hs := Option.some.inj hs
                subst hs
                exact qr_r hC rfl rfl
              · rw [if_neg hc] at hs
                refine qr_s hC (n := 2) (pc' := 143) (ls' := [.ref 0, .int x1]) (st' := [.int 1]) (h' := mw φ) rfl ?_
                have hs := Option.some.inj hs
                subst hs
                exact qr_r hC rfl rfl
def mg_E_ok (d t : Nat) (φ : qm_F) (a b : Int32) (r : Int32 × qm_F) : Prop :=
  if t = 0 then qm_Rn d 51 0 [.ref 0, .retAddr 0] [] (mw φ) (some (.int r.1), mw r.2) else
  if t = 1 then qm_Rn d 52 0 [.ref 0, .int a, .retAddr 0, .retAddr 0] [] (mw φ) (some (.int r.1), mw r.2) else
  qm_Rn d 54 0 [.ref 0] [] (mw φ) (some (.int r.1), mw r.2)

/-- SketchFillerModel.unary()Z -/
def mo_unary_L32 (F : Nat) (g : Nat → qm_F → Int32 → Int32 → Option (Int32 × qm_F)) (φ : qm_F) (s0 : Int32) : Option (Int32 × qm_F) :=
  qb2 (mo_opens F φ) fun y1 φ1 =>
  if y1 = 0 then
    some (0, φ1)
  else
    qb2 (g 0 φ1 0 0) fun y2 φ2 =>
    if ¬ y2 = 0 then
      qb1 (mo_codes F (qm_u φ2 0 28 ((φ2 0 28) - 1)) s0 0) fun φ3 =>
      some (1, φ3)
    else
      some (0, φ2)
def mo_unary_L18 (F : Nat) (g : Nat → qm_F → Int32 → Int32 → Option (Int32 × qm_F)) (φ : qm_F) : Option (Int32 × qm_F) :=
  qb1 (mo_isSign F φ 126) fun y1 =>
  if y1 = 0 then
    mo_unary_L32 F g φ 2
  else
    mo_unary_L32 F g φ 3
def mo_unary_L165 (F : Nat) (g : Nat → qm_F → Int32 → Int32 → Option (Int32 × qm_F)) (φ : qm_F) (s0 : Int32) : Option (Int32 × qm_F) :=
  qb2 (mo_must F φ s0 2) fun y1 φ1 =>
  if ¬ y1 = 0 then
    qb1 (mo_slotOf F φ1 (φ1 0 8)) fun y2 =>
    qb1 (mo_codes F φ1 1 y2) fun φ2 =>
    qb1 (mo_steps F φ2) fun φ3 =>
    some (1, φ3)
  else
    some (0, φ1)
def mo_unary (F : Nat) (g : Nat → qm_F → Int32 → Int32 → Option (Int32 × qm_F)) (φ : qm_F) : Option (Int32 × qm_F) :=
  qb1 (mo_isSign F φ 126) fun y1 =>
  if ¬ y1 = 0 then
    mo_unary_L18 F g φ
  else
    qb1 (mo_isSign F φ 45) fun y2 =>
    if y2 = 0 then
      qb1 (mo_isSign F φ 40) fun y3 =>
      if y3 = 0 then
        if ¬ (φ 0 6) = 2 then
          qb1 (mo_isName F φ) fun y4 =>
          qb2 (mo_must F φ y4 1) fun y5 φ1 =>
          if y5 = 0 then
            some (0, φ1)
          else
            qb1 (mo_slotOf F φ1 (φ1 0 8)) fun y6 =>
            if y6 < 0 then
              mo_unary_L165 F g φ1 0
            else
              mo_unary_L165 F g φ1 1
        else
          qb1 (mo_codes F φ 0 (φ 0 7)) fun φ2 =>
          qb1 (mo_steps F φ2) fun φ3 =>
          some (1, φ3)
      else
        qb2 (mo_opens F φ) fun y7 φ4 =>
        if y7 = 0 then
          some (0, φ4)
        else
          qb2 (g 2 φ4 0 0) fun y8 φ5 =>
          if y8 = 0 then
            some (0, φ5)
          else
            qb2 (mo_takesSign F φ5 41) fun y9 φ6 =>
            if ¬ y9 = 0 then
              some (1, (qm_u φ6 0 28 ((φ6 0 28) - 1)))
            else
              some (0, φ6)
    else
      mo_unary_L18 F g φ
set_option maxRecDepth 100000 in
theorem mo_unary_L32_n (F d : Nat) (g : Nat → qm_F → Int32 → Int32 → Option (Int32 × qm_F)) (hg : ∀ t φ a b r, g t φ a b = some r → mg_E_ok (d - 1) t φ a b r) (hd : 3 ≤ d) (φ : qm_F) (s0 : Int32) (r : (Int32 × qm_F)) (hs : mo_unary_L32 F g φ s0 = some r) : qm_Rn d 51 32 [.ref 0, .retAddr 0] [.int s0] (mw φ) (some (.int r.1), mw r.2) := by
  obtain ⟨d, rfl⟩ : ∃ e, d = e + 1 := ⟨d - 1, by omega⟩
  simp only [Nat.add_sub_cancel] at hg
  have hC := qC_51
  unfold mo_unary_L32 at hs
  refine qr_s hC (n := 2) (pc' := 34) (ls' := [.ref 0, .int s0]) (st' := [.ref 0]) (h' := mw φ) rfl ?_
  obtain ⟨y1, φ1, hy, hs⟩ := qb2_s hs
  refine qr_c (j := 50) (as := [.ref 0]) (rest := []) (v := some (.int y1)) (h1 := mw φ1) hC rfl rfl qC_50 rfl rfl (mo_opens_n F d φ _ (by omega) hy) ?_
  show qm_Rn (d + 1) 51 37 [.ref 0, .int s0] [.int y1] (mw φ1) _
  refine qr_eq1 (tgt := 47) hC rfl (by decide) rfl (fun hc => ?_) (fun hc => ?_)
  · rw [if_pos hc] at hs
    refine qr_s hC (n := 1) (pc' := 48) (ls' := [.ref 0, .int s0]) (st' := [.int 0]) (h' := mw φ1) rfl ?_
    have hs := Option.some.inj hs
    subst hs
    exact qr_r hC rfl rfl
  · rw [if_neg hc] at hs
    refine qr_s hC (n := 1) (pc' := 41) (ls' := [.ref 0, .int s0]) (st' := [.ref 0]) (h' := mw φ1) rfl ?_
    obtain ⟨y2, φ2, hy, hs⟩ := qb2_s hs
    refine qr_c (j := 51) (as := [.ref 0]) (rest := []) (v := some (.int y2)) (h1 := mw φ2) hC rfl rfl qC_51 rfl rfl (hg 0 φ1 0 0 _ hy) ?_
    show qm_Rn (d + 1) 51 44 [.ref 0, .int s0] [.int y2] (mw φ2) _
    refine qr_ne1 (tgt := 49) hC rfl (by decide) rfl (fun hc => ?_) (fun hc => ?_)
    · rw [if_pos hc] at hs
      refine qr_s hC (n := 9) (pc' := 62) (ls' := [.ref 0, .int s0]) (st' := [.int 0, .int s0, .ref 0]) (h' := mw (qm_u φ2 0 28 ((φ2 0 28) - 1))) rfl ?_
      obtain ⟨φ3, hy, hs⟩ := qb1_s hs
      refine qr_c (j := 49) (as := [.ref 0, .int s0, .int 0]) (rest := []) (v := none) (h1 := mw φ3) hC rfl rfl qC_49 rfl rfl (mo_codes_n F d (qm_u φ2 0 28 ((φ2 0 28) - 1)) s0 0 _ (by omega) hy) ?_
      show qm_Rn (d + 1) 51 65 [.ref 0, .int s0] [] (mw φ3) _
      refine qr_s hC (n := 1) (pc' := 66) (ls' := [.ref 0, .int s0]) (st' := [.int 1]) (h' := mw φ3) rfl ?_
      have hs := Option.some.inj hs
      subst hs
      exact qr_r hC rfl rfl
    · rw [if_neg hc] at hs
      refine qr_s hC (n := 1) (pc' := 48) (ls' := [.ref 0, .int s0]) (st' := [.int 0]) (h' := mw φ2) rfl ?_
      have hs := Option.some.inj hs
      subst hs
      exact qr_r hC rfl rfl
set_option maxRecDepth 100000 in
theorem mo_unary_L18_n (F d : Nat) (g : Nat → qm_F → Int32 → Int32 → Option (Int32 × qm_F)) (hg : ∀ t φ a b r, g t φ a b = some r → mg_E_ok (d - 1) t φ a b r) (hd : 3 ≤ d) (φ : qm_F) (r : (Int32 × qm_F)) (hs : mo_unary_L18 F g φ = some r) : qm_Rn d 51 18 [.ref 0, .retAddr 0] [] (mw φ) (some (.int r.1), mw r.2) := by
  obtain ⟨d, rfl⟩ : ∃ e, d = e + 1 := ⟨d - 1, by omega⟩
  simp only [Nat.add_sub_cancel] at hg
  have hC := qC_51
  unfold mo_unary_L18 at hs
  refine qr_s hC (n := 2) (pc' := 21) (ls' := [.ref 0, .retAddr 0]) (st' := [.int 126, .ref 0]) (h' := mw φ) rfl ?_
  obtain ⟨y1, hy, hs⟩ := qb1_s hs
  refine qr_c (j := 38) (as := [.ref 0, .int 126]) (rest := []) (v := some (.int y1)) (h1 := mw φ) hC rfl rfl qC_38 rfl rfl (mo_isSign_n F d φ 126 _ (by omega) hy) ?_
  show qm_Rn (d + 1) 51 24 [.ref 0, .retAddr 0] [.int y1] (mw φ) _
  refine qr_eq1 (tgt := 31) hC rfl (by decide) rfl (fun hc => ?_) (fun hc => ?_)
  · rw [if_pos hc] at hs
    refine qr_s hC (n := 1) (pc' := 32) (ls' := [.ref 0, .retAddr 0]) (st' := [.int 2]) (h' := mw φ) rfl ?_
    exact mo_unary_L32_n F (d + 1) g hg (by omega) φ 2 _ hs
  · rw [if_neg hc] at hs
    refine qr_s hC (n := 2) (pc' := 32) (ls' := [.ref 0, .retAddr 0]) (st' := [.int 3]) (h' := mw φ) rfl ?_
    exact mo_unary_L32_n F (d + 1) g hg (by omega) φ 3 _ hs
set_option maxRecDepth 100000 in
theorem mo_unary_L165_n (F d : Nat) (g : Nat → qm_F → Int32 → Int32 → Option (Int32 × qm_F)) (hg : ∀ t φ a b r, g t φ a b = some r → mg_E_ok (d - 1) t φ a b r) (hd : 3 ≤ d) (φ : qm_F) (s0 : Int32) (r : (Int32 × qm_F)) (hs : mo_unary_L165 F g φ s0 = some r) : qm_Rn d 51 165 [.ref 0, .retAddr 0] [.int s0, .ref 0] (mw φ) (some (.int r.1), mw r.2) := by
  obtain ⟨d, rfl⟩ : ∃ e, d = e + 1 := ⟨d - 1, by omega⟩
  simp only [Nat.add_sub_cancel] at hg
  have hC := qC_51
  unfold mo_unary_L165 at hs
  refine qr_s hC (n := 1) (pc' := 166) (ls' := [.ref 0, .retAddr 0]) (st' := [.int 2, .int s0, .ref 0]) (h' := mw φ) rfl ?_
  obtain ⟨y1, φ1, hy, hs⟩ := qb2_s hs
  refine qr_c (j := 37) (as := [.ref 0, .int s0, .int 2]) (rest := []) (v := some (.int y1)) (h1 := mw φ1) hC rfl rfl qC_37 rfl rfl (mo_must_n F d φ s0 2 _ (by omega) hy) ?_
  show qm_Rn (d + 1) 51 169 [.ref 0, .retAddr 0] [.int y1] (mw φ1) _
  refine qr_ne1 (tgt := 174) hC rfl (by decide) rfl (fun hc => ?_) (fun hc => ?_)
  · rw [if_pos hc] at hs
    refine qr_s hC (n := 5) (pc' := 181) (ls' := [.ref 0, .retAddr 0]) (st' := [.int (φ1 0 8), .ref 0, .int 1, .ref 0]) (h' := mw φ1) rfl ?_
    obtain ⟨y2, hy, hs⟩ := qb1_s hs
    refine qr_c (j := 47) (as := [.ref 0, .int (φ1 0 8)]) (rest := [.int 1, .ref 0]) (v := some (.int y2)) (h1 := mw φ1) hC rfl rfl qC_47 rfl rfl (mo_slotOf_n F d φ1 (φ1 0 8) _ (by omega) hy) ?_
    show qm_Rn (d + 1) 51 184 [.ref 0, .retAddr 0] [.int y2, .int 1, .ref 0] (mw φ1) _
    obtain ⟨φ2, hy, hs⟩ := qb1_s hs
    refine qr_c (j := 49) (as := [.ref 0, .int 1, .int y2]) (rest := []) (v := none) (h1 := mw φ2) hC rfl rfl qC_49 rfl rfl (mo_codes_n F d φ1 1 y2 _ (by omega) hy) ?_
    show qm_Rn (d + 1) 51 187 [.ref 0, .retAddr 0] [] (mw φ2) _
    refine qr_s hC (n := 1) (pc' := 188) (ls' := [.ref 0, .retAddr 0]) (st' := [.ref 0]) (h' := mw φ2) rfl ?_
    obtain ⟨φ3, hy, hs⟩ := qb1_s hs
    refine qr_c (j := 36) (as := [.ref 0]) (rest := []) (v := none) (h1 := mw φ3) hC rfl rfl qC_36 rfl rfl (mo_steps_n F d φ2 _ (by omega) hy) ?_
    show qm_Rn (d + 1) 51 191 [.ref 0, .retAddr 0] [] (mw φ3) _
    refine qr_s hC (n := 1) (pc' := 192) (ls' := [.ref 0, .retAddr 0]) (st' := [.int 1]) (h' := mw φ3) rfl ?_
    have hs := Option.some.inj hs
    subst hs
    exact qr_r hC rfl rfl
  · rw [if_neg hc] at hs
    refine qr_s hC (n := 1) (pc' := 173) (ls' := [.ref 0, .retAddr 0]) (st' := [.int 0]) (h' := mw φ1) rfl ?_
    have hs := Option.some.inj hs
    subst hs
    exact qr_r hC rfl rfl
set_option maxRecDepth 100000 in
theorem mo_unary_n (F d : Nat) (g : Nat → qm_F → Int32 → Int32 → Option (Int32 × qm_F)) (hg : ∀ t φ a b r, g t φ a b = some r → mg_E_ok (d - 1) t φ a b r) (hd : 3 ≤ d) (φ : qm_F) (r : (Int32 × qm_F)) (hs : mo_unary F g φ = some r) : qm_Rn d 51 0 [.ref 0, .retAddr 0] [] (mw φ) (some (.int r.1), mw r.2) := by
  obtain ⟨d, rfl⟩ : ∃ e, d = e + 1 := ⟨d - 1, by omega⟩
  simp only [Nat.add_sub_cancel] at hg
  have hC := qC_51
  unfold mo_unary at hs
  refine qr_s hC (n := 2) (pc' := 3) (ls' := [.ref 0, .retAddr 0]) (st' := [.int 126, .ref 0]) (h' := mw φ) rfl ?_
  obtain ⟨y1, hy, hs⟩ := qb1_s hs
  refine qr_c (j := 38) (as := [.ref 0, .int 126]) (rest := []) (v := some (.int y1)) (h1 := mw φ) hC rfl rfl qC_38 rfl rfl (mo_isSign_n F d φ 126 _ (by omega) hy) ?_
  show qm_Rn (d + 1) 51 6 [.ref 0, .retAddr 0] [.int y1] (mw φ) _
  refine qr_ne1 (tgt := 18) hC rfl (by decide) rfl (fun hc => ?_) (fun hc => ?_)
  · rw [if_pos hc] at hs
    exact mo_unary_L18_n F (d + 1) g hg (by omega) φ _ hs
  · rw [if_neg hc] at hs
    refine qr_s hC (n := 2) (pc' := 12) (ls' := [.ref 0, .retAddr 0]) (st' := [.int 45, .ref 0]) (h' := mw φ) rfl ?_
    obtain ⟨y2, hy, hs⟩ := qb1_s hs
    refine qr_c (j := 38) (as := [.ref 0, .int 45]) (rest := []) (v := some (.int y2)) (h1 := mw φ) hC rfl rfl qC_38 rfl rfl (mo_isSign_n F d φ 45 _ (by omega) hy) ?_
    show qm_Rn (d + 1) 51 15 [.ref 0, .retAddr 0] [.int y2] (mw φ) _
    refine qr_eq1 (tgt := 67) hC rfl (by decide) rfl (fun hc => ?_) (fun hc => ?_)
    · rw [if_pos hc] at hs
      refine qr_s hC (n := 2) (pc' := 70) (ls' := [.ref 0, .retAddr 0]) (st' := [.int 40, .ref 0]) (h' := mw φ) rfl ?_
      obtain ⟨y3, hy, hs⟩ := qb1_s hs
      refine qr_c (j := 38) (as := [.ref 0, .int 40]) (rest := []) (v := some (.int y3)) (h1 := mw φ) hC rfl rfl qC_38 rfl rfl (mo_isSign_n F d φ 40 _ (by omega) hy) ?_
      show qm_Rn (d + 1) 51 73 [.ref 0, .retAddr 0] [.int y3] (mw φ) _
      refine qr_eq1 (tgt := 113) hC rfl (by decide) rfl (fun hc => ?_) (fun hc => ?_)
      · rw [if_pos hc] at hs
        refine qr_s hC (n := 3) (pc' := 118) (ls' := [.ref 0, .retAddr 0]) (st' := [.int 2, .int (φ 0 6)]) (h' := mw φ) rfl ?_
        refine qr_ne2 (tgt := 136) hC rfl (by decide) rfl (fun hc => ?_) (fun hc => ?_)
        · rw [if_pos hc] at hs
          refine qr_s hC (n := 2) (pc' := 138) (ls' := [.ref 0, .retAddr 0]) (st' := [.ref 0, .ref 0]) (h' := mw φ) rfl ?_
          obtain ⟨y4, hy, hs⟩ := qb1_s hs
          refine qr_c (j := 41) (as := [.ref 0]) (rest := [.ref 0]) (v := some (.int y4)) (h1 := mw φ) hC rfl rfl qC_41 rfl rfl (mo_isName_n F d φ _ (by omega) hy) ?_
          show qm_Rn (d + 1) 51 141 [.ref 0, .retAddr 0] [.int y4, .ref 0] (mw φ) _
          refine qr_s hC (n := 1) (pc' := 142) (ls' := [.ref 0, .retAddr 0]) (st' := [.int 1, .int y4, .ref 0]) (h' := mw φ) rfl ?_
          obtain ⟨y5, φ1, hy, hs⟩ := qb2_s hs
          refine qr_c (j := 37) (as := [.ref 0, .int y4, .int 1]) (rest := []) (v := some (.int y5)) (h1 := mw φ1) hC rfl rfl qC_37 rfl rfl (mo_must_n F d φ y4 1 _ (by omega) hy) ?_
          show qm_Rn (d + 1) 51 145 [.ref 0, .retAddr 0] [.int y5] (mw φ1) _
          refine qr_eq1 (tgt := 172) hC rfl (by decide) rfl (fun hc => ?_) (fun hc => ?_)
          · rw [if_pos hc] at hs
            refine qr_s hC (n := 1) (pc' := 173) (ls' := [.ref 0, .retAddr 0]) (st' := [.int 0]) (h' := mw φ1) rfl ?_
            have hs := Option.some.inj hs
            subst hs
            exact qr_r hC rfl rfl
          · rw [if_neg hc] at hs
            refine qr_s hC (n := 4) (pc' := 154) (ls' := [.ref 0, .retAddr 0]) (st' := [.int (φ1 0 8), .ref 0, .ref 0]) (h' := mw φ1) rfl ?_
            obtain ⟨y6, hy, hs⟩ := qb1_s hs
            refine qr_c (j := 47) (as := [.ref 0, .int (φ1 0 8)]) (rest := [.ref 0]) (v := some (.int y6)) (h1 := mw φ1) hC rfl rfl qC_47 rfl rfl (mo_slotOf_n F d φ1 (φ1 0 8) _ (by omega) hy) ?_
            show qm_Rn (d + 1) 51 157 [.ref 0, .retAddr 0] [.int y6, .ref 0] (mw φ1) _
            refine qr_lt1 (tgt := 164) hC rfl (by decide) rfl (fun hc => ?_) (fun hc => ?_)
            · rw [if_pos hc] at hs
              refine qr_s hC (n := 1) (pc' := 165) (ls' := [.ref 0, .retAddr 0]) (st' := [.int 0, .ref 0]) (h' := mw φ1) rfl ?_
              exact mo_unary_L165_n F (d + 1) g hg (by omega) φ1 0 _ hs
            · rw [if_neg hc] at hs
              refine qr_s hC (n := 2) (pc' := 165) (ls' := [.ref 0, .retAddr 0]) (st' := [.int 1, .ref 0]) (h' := mw φ1) rfl ?_
              exact mo_unary_L165_n F (d + 1) g hg (by omega) φ1 1 _ hs
        · rw [if_neg hc] at hs
          refine qr_s hC (n := 4) (pc' := 127) (ls' := [.ref 0, .retAddr 0]) (st' := [.int (φ 0 7), .int 0, .ref 0]) (h' := mw φ) rfl ?_
          obtain ⟨φ2, hy, hs⟩ := qb1_s hs
          refine qr_c (j := 49) (as := [.ref 0, .int 0, .int (φ 0 7)]) (rest := []) (v := none) (h1 := mw φ2) hC rfl rfl qC_49 rfl rfl (mo_codes_n F d φ 0 (φ 0 7) _ (by omega) hy) ?_
          show qm_Rn (d + 1) 51 130 [.ref 0, .retAddr 0] [] (mw φ2) _
          refine qr_s hC (n := 1) (pc' := 131) (ls' := [.ref 0, .retAddr 0]) (st' := [.ref 0]) (h' := mw φ2) rfl ?_
          obtain ⟨φ3, hy, hs⟩ := qb1_s hs
          refine qr_c (j := 36) (as := [.ref 0]) (rest := []) (v := none) (h1 := mw φ3) hC rfl rfl qC_36 rfl rfl (mo_steps_n F d φ2 _ (by omega) hy) ?_
          show qm_Rn (d + 1) 51 134 [.ref 0, .retAddr 0] [] (mw φ3) _
          refine qr_s hC (n := 1) (pc' := 135) (ls' := [.ref 0, .retAddr 0]) (st' := [.int 1]) (h' := mw φ3) rfl ?_
          have hs := Option.some.inj hs
          subst hs
          exact qr_r hC rfl rfl
      · rw [if_neg hc] at hs
        refine qr_s hC (n := 1) (pc' := 77) (ls' := [.ref 0, .retAddr 0]) (st' := [.ref 0]) (h' := mw φ) rfl ?_
        obtain ⟨y7, φ4, hy, hs⟩ := qb2_s hs
        refine qr_c (j := 50) (as := [.ref 0]) (rest := []) (v := some (.int y7)) (h1 := mw φ4) hC rfl rfl qC_50 rfl rfl (mo_opens_n F d φ _ (by omega) hy) ?_
        show qm_Rn (d + 1) 51 80 [.ref 0, .retAddr 0] [.int y7] (mw φ4) _
        refine qr_eq1 (tgt := 99) hC rfl (by decide) rfl (fun hc => ?_) (fun hc => ?_)
        · rw [if_pos hc] at hs
          refine qr_s hC (n := 1) (pc' := 100) (ls' := [.ref 0, .retAddr 0]) (st' := [.int 0]) (h' := mw φ4) rfl ?_
          have hs := Option.some.inj hs
          subst hs
          exact qr_r hC rfl rfl
        · rw [if_neg hc] at hs
          refine qr_s hC (n := 1) (pc' := 84) (ls' := [.ref 0, .retAddr 0]) (st' := [.ref 0]) (h' := mw φ4) rfl ?_
          obtain ⟨y8, φ5, hy, hs⟩ := qb2_s hs
          refine qr_c (j := 54) (as := [.ref 0]) (rest := []) (v := some (.int y8)) (h1 := mw φ5) hC rfl rfl qC_54 rfl rfl (hg 2 φ4 0 0 _ hy) ?_
          show qm_Rn (d + 1) 51 87 [.ref 0, .retAddr 0] [.int y8] (mw φ5) _
          refine qr_eq1 (tgt := 99) hC rfl (by decide) rfl (fun hc => ?_) (fun hc => ?_)
          · rw [if_pos hc] at hs
            refine qr_s hC (n := 1) (pc' := 100) (ls' := [.ref 0, .retAddr 0]) (st' := [.int 0]) (h' := mw φ5) rfl ?_
            have hs := Option.some.inj hs
            subst hs
            exact qr_r hC rfl rfl
          · rw [if_neg hc] at hs
            refine qr_s hC (n := 2) (pc' := 93) (ls' := [.ref 0, .retAddr 0]) (st' := [.int 41, .ref 0]) (h' := mw φ5) rfl ?_
            obtain ⟨y9, φ6, hy, hs⟩ := qb2_s hs
            refine qr_c (j := 42) (as := [.ref 0, .int 41]) (rest := []) (v := some (.int y9)) (h1 := mw φ6) hC rfl rfl qC_42 rfl rfl (mo_takesSign_n F d φ5 41 _ (by omega) hy) ?_
            show qm_Rn (d + 1) 51 96 [.ref 0, .retAddr 0] [.int y9] (mw φ6) _
            refine qr_ne1 (tgt := 101) hC rfl (by decide) rfl (fun hc => ?_) (fun hc => ?_)
            · rw [if_pos hc] at hs
              refine qr_s hC (n := 7) (pc' := 112) (ls' := [.ref 0, .retAddr 0]) (st' := [.int 1]) (h' := mw (qm_u φ6 0 28 ((φ6 0 28) - 1))) rfl ?_
              have hs := Option.some.inj hs
              subst hs
              exact qr_r hC rfl rfl
            · rw [if_neg hc] at hs
              refine qr_s hC (n := 1) (pc' := 100) (ls' := [.ref 0, .retAddr 0]) (st' := [.int 0]) (h' := mw φ6) rfl ?_
              have hs := Option.some.inj hs
              subst hs
              exact qr_r hC rfl rfl
    · rw [if_neg hc] at hs
      exact mo_unary_L18_n F (d + 1) g hg (by omega) φ _ hs

/-- SketchFillerModel.sides(I)Z -/
def mo_sides_L24 (F : Nat) (g : Nat → qm_F → Int32 → Int32 → Option (Int32 × qm_F)) : Nat → qm_F → Int32 → Int32 → Option (Int32 × qm_F)
  | 0, _, _, _ => none
  | n + 1, φ, x1, x2 =>
    if x2 = 0 then
      some (1, φ)
    else
      qb1 (mo_isOf F φ x1) fun y1 =>
      if y1 = 0 then
        some (1, φ)
      else
        qb1 (mo_see F φ (φ 0 4)) fun y2 =>
        qb1 (mo_steps F φ) fun φ1 =>
        qb2 (g 1 φ1 (x1 + 1) 0) fun y3 φ2 =>
        if ¬ y3 = 0 then
          qb1 (mo_codes F φ2 y2 0) fun φ3 =>
          if x1 = 2 then
            mo_sides_L24 F g n φ3 x1 0
          else
            mo_sides_L24 F g n φ3 x1 1
        else
          some (0, φ2)
def mo_sides (F : Nat) (g : Nat → qm_F → Int32 → Int32 → Option (Int32 × qm_F)) (φ : qm_F) (x1 : Int32) : Option (Int32 × qm_F) :=
  if ¬ x1 = 5 then
    qb2 (g 1 φ (x1 + 1) 0) fun y1 φ1 =>
    if ¬ y1 = 0 then
      mo_sides_L24 F g F φ1 x1 1
    else
      some (0, φ1)
  else
    qb2 (g 0 φ 0 0) fun y2 φ2 =>
    qg (qm_bz y2) (some (y2, φ2))
set_option maxRecDepth 100000 in
theorem mo_sides_L24_n (F d : Nat) (g : Nat → qm_F → Int32 → Int32 → Option (Int32 × qm_F)) (hg : ∀ t φ a b r, g t φ a b = some r → mg_E_ok (d - 1) t φ a b r) (hd : 3 ≤ d) : ∀ (n : Nat) (φ : qm_F) (x1 : Int32) (x2 : Int32) (r : (Int32 × qm_F)), mo_sides_L24 F g n φ x1 x2 = some r → qm_Rn d 52 24 [.ref 0, .int x1, .int x2, .retAddr 0] [] (mw φ) (some (.int r.1), mw r.2) := by
  obtain ⟨d, rfl⟩ : ∃ e, d = e + 1 := ⟨d - 1, by omega⟩
  simp only [Nat.add_sub_cancel] at hg
  have hC := qC_52
  intro n
  induction n with
  | zero => intro φ x1 x2 r hs; simp [mo_sides_L24] at hs
  | succ n ih =>
    intro φ x1 x2 r hs
    rw [mo_sides_L24] at hs
    refine qr_s hC (n := 1) (pc' := 25) (ls' := [.ref 0, .int x1, .int x2, .retAddr 0]) (st' := [.int x2]) (h' := mw φ) rfl ?_
    refine qr_eq1 (tgt := 81) hC rfl (by decide) rfl (fun hc => ?_) (fun hc => ?_)
    · rw [if_pos hc] at hs
      refine qr_s hC (n := 1) (pc' := 82) (ls' := [.ref 0, .int x1, .int x2, .retAddr 0]) (st' := [.int 1]) (h' := mw φ) rfl ?_
      have hs := Option.some.inj hs
      subst hs
      exact qr_r hC rfl rfl
    · rw [if_neg hc] at hs
      refine qr_s hC (n := 2) (pc' := 30) (ls' := [.ref 0, .int x1, .int x2, .retAddr 0]) (st' := [.int x1, .ref 0]) (h' := mw φ) rfl ?_
      obtain ⟨y1, hy, hs⟩ := qb1_s hs
      refine qr_c (j := 53) (as := [.ref 0, .int x1]) (rest := []) (v := some (.int y1)) (h1 := mw φ) hC rfl rfl qC_53 rfl rfl (mo_isOf_n F d φ x1 _ (by omega) hy) ?_
      show qm_Rn (d + 1) 52 33 [.ref 0, .int x1, .int x2, .retAddr 0] [.int y1] (mw φ) _
      refine qr_eq1 (tgt := 81) hC rfl (by decide) rfl (fun hc => ?_) (fun hc => ?_)
      · rw [if_pos hc] at hs
        refine qr_s hC (n := 1) (pc' := 82) (ls' := [.ref 0, .int x1, .int x2, .retAddr 0]) (st' := [.int 1]) (h' := mw φ) rfl ?_
        have hs := Option.some.inj hs
        subst hs
        exact qr_r hC rfl rfl
      · rw [if_neg hc] at hs
        refine qr_s hC (n := 3) (pc' := 41) (ls' := [.ref 0, .int x1, .int x2, .retAddr 0]) (st' := [.int (φ 0 4), .ref 0]) (h' := mw φ) rfl ?_
        obtain ⟨y2, hy, hs⟩ := qb1_s hs
        refine qr_c (j := 34) (as := [.ref 0, .int (φ 0 4)]) (rest := []) (v := some (.int y2)) (h1 := mw φ) hC rfl rfl qC_34 rfl rfl (mo_see_n F d φ (φ 0 4) _ (by omega) hy) ?_
        show qm_Rn (d + 1) 52 44 [.ref 0, .int x1, .int x2, .retAddr 0] [.int y2] (mw φ) _
        refine qr_s hC (n := 2) (pc' := 46) (ls' := [.ref 0, .int x1, .int x2, .int y2]) (st' := [.ref 0]) (h' := mw φ) rfl ?_
        obtain ⟨φ1, hy, hs⟩ := qb1_s hs
        refine qr_c (j := 36) (as := [.ref 0]) (rest := []) (v := none) (h1 := mw φ1) hC rfl rfl qC_36 rfl rfl (mo_steps_n F d φ _ (by omega) hy) ?_
        show qm_Rn (d + 1) 52 49 [.ref 0, .int x1, .int x2, .int y2] [] (mw φ1) _
        refine qr_s hC (n := 4) (pc' := 53) (ls' := [.ref 0, .int x1, .int x2, .int y2]) (st' := [.int (x1 + 1), .ref 0]) (h' := mw φ1) rfl ?_
        obtain ⟨y3, φ2, hy, hs⟩ := qb2_s hs
        refine qr_c (j := 52) (as := [.ref 0, .int (x1 + 1)]) (rest := []) (v := some (.int y3)) (h1 := mw φ2) hC rfl rfl qC_52 rfl rfl (hg 1 φ1 (x1 + 1) 0 _ hy) ?_
        show qm_Rn (d + 1) 52 56 [.ref 0, .int x1, .int x2, .int y2] [.int y3] (mw φ2) _
        refine qr_ne1 (tgt := 61) hC rfl (by decide) rfl (fun hc => ?_) (fun hc => ?_)
        · rw [if_pos hc] at hs
          refine qr_s hC (n := 3) (pc' := 64) (ls' := [.ref 0, .int x1, .int x2, .int y2]) (st' := [.int 0, .int y2, .ref 0]) (h' := mw φ2) rfl ?_
          obtain ⟨φ3, hy, hs⟩ := qb1_s hs
          refine qr_c (j := 49) (as := [.ref 0, .int y2, .int 0]) (rest := []) (v := none) (h1 := mw φ3) hC rfl rfl qC_49 rfl rfl (mo_codes_n F d φ2 y2 0 _ (by omega) hy) ?_
          show qm_Rn (d + 1) 52 67 [.ref 0, .int x1, .int x2, .int y2] [] (mw φ3) _
          refine qr_s hC (n := 2) (pc' := 69) (ls' := [.ref 0, .int x1, .int x2, .int y2]) (st' := [.int 2, .int x1]) (h' := mw φ3) rfl ?_
          refine qr_eq2 (tgt := 76) hC rfl (by decide) rfl (fun hc => ?_) (fun hc => ?_)
          · rw [if_pos hc] at hs
            refine qr_s hC (n := 3) (pc' := 24) (ls' := [.ref 0, .int x1, .int 0, .int y2]) (st' := []) (h' := mw φ3) rfl ?_
            exact qr_w (a := [.ref 0, .int x1, .int 0, .retAddr 0]) ⟨Or.inr rfl, Or.inr rfl, Or.inr rfl, Or.inl rfl, trivial⟩ (ih φ3 x1 0 _ hs)
          · rw [if_neg hc] at hs
            refine qr_s hC (n := 4) (pc' := 24) (ls' := [.ref 0, .int x1, .int 1, .int y2]) (st' := []) (h' := mw φ3) rfl ?_
            exact qr_w (a := [.ref 0, .int x1, .int 1, .retAddr 0]) ⟨Or.inr rfl, Or.inr rfl, Or.inr rfl, Or.inl rfl, trivial⟩ (ih φ3 x1 1 _ hs)
        · rw [if_neg hc] at hs
          refine qr_s hC (n := 1) (pc' := 60) (ls' := [.ref 0, .int x1, .int x2, .int y2]) (st' := [.int 0]) (h' := mw φ2) rfl ?_
          have hs := Option.some.inj hs
          subst hs
          exact qr_r hC rfl rfl
set_option maxRecDepth 100000 in
theorem mo_sides_n (F d : Nat) (g : Nat → qm_F → Int32 → Int32 → Option (Int32 × qm_F)) (hg : ∀ t φ a b r, g t φ a b = some r → mg_E_ok (d - 1) t φ a b r) (hd : 3 ≤ d) (φ : qm_F) (x1 : Int32) (r : (Int32 × qm_F)) (hs : mo_sides F g φ x1 = some r) : qm_Rn d 52 0 [.ref 0, .int x1, .retAddr 0, .retAddr 0] [] (mw φ) (some (.int r.1), mw r.2) := by
  obtain ⟨d, rfl⟩ : ∃ e, d = e + 1 := ⟨d - 1, by omega⟩
  simp only [Nat.add_sub_cancel] at hg
  have hC := qC_52
  unfold mo_sides at hs
  refine qr_s hC (n := 2) (pc' := 2) (ls' := [.ref 0, .int x1, .retAddr 0, .retAddr 0]) (st' := [.int 5, .int x1]) (h' := mw φ) rfl ?_
  refine qr_ne2 (tgt := 10) hC rfl (by decide) rfl (fun hc => ?_) (fun hc => ?_)
  · rw [if_pos hc] at hs
    refine qr_s hC (n := 4) (pc' := 14) (ls' := [.ref 0, .int x1, .retAddr 0, .retAddr 0]) (st' := [.int (x1 + 1), .ref 0]) (h' := mw φ) rfl ?_
    obtain ⟨y1, φ1, hy, hs⟩ := qb2_s hs
    refine qr_c (j := 52) (as := [.ref 0, .int (x1 + 1)]) (rest := []) (v := some (.int y1)) (h1 := mw φ1) hC rfl rfl qC_52 rfl rfl (hg 1 φ (x1 + 1) 0 _ hy) ?_
    show qm_Rn (d + 1) 52 17 [.ref 0, .int x1, .retAddr 0, .retAddr 0] [.int y1] (mw φ1) _
    refine qr_ne1 (tgt := 22) hC rfl (by decide) rfl (fun hc => ?_) (fun hc => ?_)
    · rw [if_pos hc] at hs
      refine qr_s hC (n := 2) (pc' := 24) (ls' := [.ref 0, .int x1, .int 1, .retAddr 0]) (st' := []) (h' := mw φ1) rfl ?_
      exact mo_sides_L24_n F (d + 1) g hg (by omega) F φ1 x1 1 _ hs
    · rw [if_neg hc] at hs
      refine qr_s hC (n := 1) (pc' := 21) (ls' := [.ref 0, .int x1, .retAddr 0, .retAddr 0]) (st' := [.int 0]) (h' := mw φ1) rfl ?_
      have hs := Option.some.inj hs
      subst hs
      exact qr_r hC rfl rfl
  · rw [if_neg hc] at hs
    refine qr_s hC (n := 1) (pc' := 6) (ls' := [.ref 0, .int x1, .retAddr 0, .retAddr 0]) (st' := [.ref 0]) (h' := mw φ) rfl ?_
    obtain ⟨y2, φ2, hy, hs⟩ := qb2_s hs
    refine qr_c (j := 51) (as := [.ref 0]) (rest := []) (v := some (.int y2)) (h1 := mw φ2) hC rfl rfl qC_51 rfl rfl (hg 0 φ 0 0 _ hy) ?_
    show qm_Rn (d + 1) 52 9 [.ref 0, .int x1, .retAddr 0, .retAddr 0] [.int y2] (mw φ2) _
    obtain ⟨hz, hs⟩ := qg_s hs
    have hs := Option.some.inj hs
    subst hs
    exact qr_rz hC rfl hz

/-- SketchFillerModel.e()Z -/
def mo_e (F : Nat) (g : Nat → qm_F → Int32 → Int32 → Option (Int32 × qm_F)) (φ : qm_F) : Option (Int32 × qm_F) :=
  qb2 (g 1 φ 0 0) fun y1 φ1 =>
  qg (qm_bz y1) (some (y1, φ1))
set_option maxRecDepth 100000 in
theorem mo_e_n (F d : Nat) (g : Nat → qm_F → Int32 → Int32 → Option (Int32 × qm_F)) (hg : ∀ t φ a b r, g t φ a b = some r → mg_E_ok (d - 1) t φ a b r) (hd : 3 ≤ d) (φ : qm_F) (r : (Int32 × qm_F)) (hs : mo_e F g φ = some r) : qm_Rn d 54 0 [.ref 0] [] (mw φ) (some (.int r.1), mw r.2) := by
  obtain ⟨d, rfl⟩ : ∃ e, d = e + 1 := ⟨d - 1, by omega⟩
  simp only [Nat.add_sub_cancel] at hg
  have hC := qC_54
  unfold mo_e at hs
  refine qr_s hC (n := 2) (pc' := 2) (ls' := [.ref 0]) (st' := [.int 0, .ref 0]) (h' := mw φ) rfl ?_
  obtain ⟨y1, φ1, hy, hs⟩ := qb2_s hs
  refine qr_c (j := 52) (as := [.ref 0, .int 0]) (rest := []) (v := some (.int y1)) (h1 := mw φ1) hC rfl rfl qC_52 rfl rfl (hg 1 φ 0 0 _ hy) ?_
  show qm_Rn (d + 1) 54 5 [.ref 0] [.int y1] (mw φ1) _
  obtain ⟨hz, hs⟩ := qg_s hs
  have hs := Option.some.inj hs
  subst hs
  exact qr_rz hC rfl hz

def mg_E (F : Nat) : Nat → Nat → qm_F → Int32 → Int32 → Option (Int32 × qm_F)
  | 0, _, _, _, _ => none
  | n + 1, t, φ, a, b =>
    if t = 0 then mo_unary F (mg_E F n) φ else
    if t = 1 then mo_sides F (mg_E F n) φ a else
    mo_e F (mg_E F n) φ

theorem mg_E_n (F : Nat) : ∀ (n t : Nat) (φ : qm_F) (a b : Int32) (r : Int32 × qm_F) (d : Nat), 3 + n ≤ d → mg_E F n t φ a b = some r → mg_E_ok d t φ a b r := by
  intro n
  induction n with
  | zero => intro t φ a b r d hd hs; simp [mg_E] at hs
  | succ n ih =>
    intro t φ a b r d hd hs
    rw [mg_E] at hs
    have hg : ∀ t φ a b r, mg_E F n t φ a b = some r → mg_E_ok (d - 1) t φ a b r := fun t φ a b r q => ih t φ a b r (d - 1) (by omega) q
    unfold mg_E_ok
    by_cases h0 : t = 0
    · rw [if_pos h0] at hs ⊢
      exact mo_unary_n F d (mg_E F n) hg (by omega) φ r hs
    rw [if_neg h0] at hs ⊢
    by_cases h1 : t = 1
    · rw [if_pos h1] at hs ⊢
      exact mo_sides_n F d (mg_E F n) hg (by omega) φ a r hs
    rw [if_neg h1] at hs ⊢
    exact mo_e_n F d (mg_E F n) hg (by omega) φ r hs
