/-! SEMANTICS: blocks -/
def ys_beg (k : Int32) : Prop := k = 97 ∨ k = 133 ∨ k = 134 ∨ k = 136 ∨ k = 137 ∨ k = 139
def ys_kd (k : Int32) : Int32 := if k = 97 then 0 else if k = 133 then 1 else if k = 134 then 2 else if k = 136 then 3 else if k = 137 then 4 else if k = 139 then 5 else -1
def ys_G (n cnt : Nat) (b : Nat → Int32) (T : qm_F) (L : List (Nat × Nat)) (br lt : Nat) (φ ψ : qm_F) (t sz cd si : Nat) (φ' ψ' : qm_F) (t' sz' cd' ns' : Nat) : Prop :=
  ys_S n cnt b T t' sz' cd' ns' br lt L φ' ψ' ∧ ys_fx L.length t sz φ φ' ∧ ys_fm cd si lt ψ ψ' ∧ t ≤ t' ∧ sz ≤ sz' ∧ cd ≤ cd' ∧ (∀ s, t ≤ s → s < t' → ye_mk T ψ φ' s)
section Y10
variable {F nR n cnt t sz cd ns br lt s : Nat} {b : Nat → Int32} {T φ ψ : qm_F} {L : List (Nat × Nat)}
theorem ys_mk_tr {φ' ψ' φ'' : qm_F} {t t' t'' cd' si lt sz' l0 cd si' : Nat} (h : ∀ s, t ≤ s → s < t' → ye_mk T ψ φ' s) (h' : ∀ s, t' ≤ s → s < t'' → ye_mk T ψ' φ'' s) (fx : ys_fx l0 t' sz' φ' φ'') (fm : ys_fm cd si' lt ψ ψ') : ∀ s, t ≤ s → s < t'' → ye_mk T ψ φ'' s := by
  intro s h1 h2
  by_cases q : s < t'
  · exact (h s h1 q).fr (fx 6 s (by omega) (by omega) (by omega) (by omega) (by omega) (by omega)) (fx 9 s (by omega) (by omega) (by omega) (by omega) (by omega) (by omega)) (fun _ _ => rfl)
  · exact (h' s (by omega) h2).fr rfl rfl (fun k hk => (fm 3 _ (by omega) (by omega) (by omega) (by omega) (by omega)).symm)
theorem ys_G.trans {φ1 ψ1 φ2 ψ2 : qm_F} {si si' t1 sz1 cd1 ns1 t2 sz2 cd2 ns2 : Nat} (h : ys_G n cnt b T L br lt φ ψ t sz cd si φ1 ψ1 t1 sz1 cd1 ns1) (h' : ys_G n cnt b T L br lt φ1 ψ1 t1 sz1 cd1 si' φ2 ψ2 t2 sz2 cd2 ns2) (hs : si ≤ si') : ys_G n cnt b T L br lt φ ψ t sz cd si φ2 ψ2 t2 sz2 cd2 ns2 := by
  obtain ⟨a1, a2, a3, a4, a5, a6, a7⟩ := h
  obtain ⟨b1, b2, b3, b4, b5, b6, b7⟩ := h'
  exact ⟨b1, a2.trans b2 (Nat.le_refl _) a4 a5, a3.trans b3 a6 hs (Nat.le_refl _), by omega, by omega, by omega, ys_mk_tr a7 b7 b2 a3 (cd' := 0) (si := 0)⟩
theorem ys_carry {φ1 ψ1 φ2 ψ2 : qm_F} {l0 t1 sz1 cd1 ns1 lt1 : Nat} (fx : ys_fx l0 t1 sz1 φ1 φ2) (fm : ys_fm cd1 (144 + 6 * ns1) lt1 ψ1 ψ2) : (∀ i, i < cd1 → ys_Z φ2 ψ2 0 i = ys_Z φ1 ψ1 0 i ∧ ys_Z φ2 ψ2 1 i = ys_Z φ1 ψ1 1 i) ∧ (∀ i, i < sz1 → ys_Z φ2 ψ2 2 i = ys_Z φ1 ψ1 2 i ∧ ys_Z φ2 ψ2 3 i = ys_Z φ1 ψ1 3 i ∧ ys_Z φ2 ψ2 4 i = ys_Z φ1 ψ1 4 i) ∧ (∀ s1, s1 < ns1 → ∀ k, k < 6 → ys_T ψ2 s1 k = ys_T ψ1 s1 k) := by
  refine ⟨fun i hi => ⟨fm 7 _ (by omega) (by omega) (by omega) (by omega) (by omega), fm 8 _ (by omega) (by omega) (by omega) (by omega) (by omega)⟩, fun i hi => ⟨fx 20 i (by omega) (by omega) (by omega) (by omega) (by omega) (by omega), fx 21 i (by omega) (by omega) (by omega) (by omega) (by omega) (by omega), fx 22 i (by omega) (by omega) (by omega) (by omega) (by omega) (by omega)⟩, fun s1 hs k hk => fm 6 _ (by omega) (by omega) (by omega) (by omega) (by omega)⟩
theorem ys_kind (hK : yk_TK F n cnt b T) (hM : yp_M n b T t cd ψ) (ht : t < cnt) : mo_kindHere F ψ = some (ys_kd (T 0 t)) := by
  unfold mo_kindHere
  rw [ym_own hK hM ht, ym_isName hK hM ht]
  simp only [yb1]
  have e := fun w hw => yk_own_eq (k := T 0 t) (w := w) hw
  have e5 : (yk_own (T 0 t) = 5 ↔ T 0 t = 133) := e 5 (by omega)
  have e6 : (yk_own (T 0 t) = 6 ↔ T 0 t = 134) := e 6 (by omega)
  have e8 : (yk_own (T 0 t) = 8 ↔ T 0 t = 136) := e 8 (by omega)
  have e9 : (yk_own (T 0 t) = 9 ↔ T 0 t = 137) := e 9 (by omega)
  have e11 : (yk_own (T 0 t) = 11 ↔ T 0 t = 139) := e 11 (by omega)
  unfold ys_kd
  simp only [e5, e6, e8, e9, e11]
  by_cases q : T 0 t = 97
  · rw [if_pos q, if_neg (by decide), if_pos q]
  · rw [if_neg q, if_pos (by first | trivial | decide), if_neg q]
    by_cases q5 : T 0 t = 133
    · rw [if_neg (by simp [q5]), if_pos q5]
    · rw [if_pos q5, if_neg q5]
      by_cases q6 : T 0 t = 134
      · rw [if_neg (by simp [q6]), if_pos q6]
      · rw [if_pos q6, if_neg q6]
        by_cases q8 : T 0 t = 136
        · rw [if_neg (by simp [q8]), if_pos q8]
        · rw [if_pos q8, if_neg q8]
          by_cases q9 : T 0 t = 137
          · rw [if_neg (by simp [q9]), if_pos q9]
          · rw [if_pos q9, if_neg q9]
            by_cases q11 : T 0 t = 139
            · rw [if_neg (by simp [q11]), if_pos q11]
            · rw [if_pos q11, if_neg q11]
theorem ys_kd_beg (k : Int32) : ¬ ys_beg k → ys_kd k = -1 := by
  intro h
  unfold ys_beg at h
  unfold ys_kd
  rw [if_neg (fun z => h (by simp [z])), if_neg (fun z => h (by simp [z])), if_neg (fun z => h (by simp [z])), if_neg (fun z => h (by simp [z])), if_neg (fun z => h (by simp [z])), if_neg (fun z => h (by simp [z]))]
theorem ys_begx (hK : yk_TK F n cnt b T) (hX : yp_X n cnt T t sz φ) (ht : t < cnt) : (ys_beg (T 0 t) ∧ pa_beginsStatement F nR n cnt φ = some 1) ∨ (¬ ys_beg (T 0 t) ∧ pa_beginsStatement F nR n cnt φ = some 0) := by
  have hcn := yk_cn hK
  unfold pa_beginsStatement
  rw [yx_kind hX ht (by omega) (by omega)]
  simp only [yb1]
  unfold ys_beg
  by_cases q : T 0 t = 97
  · exact Or.inl ⟨Or.inl q, if_pos q⟩
  · rw [if_neg q]
    by_cases q5 : T 0 t = 133
    · exact Or.inl ⟨by simp [q5], if_pos q5⟩
    · rw [if_neg q5]
      by_cases q6 : T 0 t = 134
      · exact Or.inl ⟨by simp [q6], if_pos q6⟩
      · rw [if_neg q6]
        by_cases q8 : T 0 t = 136
        · exact Or.inl ⟨by simp [q8], if_pos q8⟩
        · rw [if_neg q8]
          by_cases q9 : T 0 t = 137
          · exact Or.inl ⟨by simp [q9], if_pos q9⟩
          · rw [if_neg q9]
            by_cases q11 : T 0 t = 139
            · exact Or.inl ⟨by simp [q11], if_pos q11⟩
            · rw [if_neg q11]
              exact Or.inr ⟨by simp [q, q5, q6, q8, q9, q11], rfl⟩
/-- no statement begins here: both tell it -/
theorem ys_nost (hK : yk_TK F n cnt b T) (h : ys_S n cnt b T t sz cd ns br lt L φ ψ) (hb : ¬ ys_beg (T 0 t)) (g : Nat → qm_F → Int32 → Int32 → Option (Int32 × qm_F)) : mo_statementHere F g ψ = some (0, qm_u (qm_u ψ 0 9 1) 0 10 (T 1 t)) := by
  unfold mo_statementHere mo_statementHere_L15
  rw [ys_kind hK h.2.2.1 h.1, ys_kd_beg _ hb]
  simp only [yb1]
  rw [if_pos (by decide), ym_must0 h.2.2.1 (by decide)]
  rfl
/-- a statement: both parsers alike -/
def ys_stc (n cnt : Nat) (b : Nat → Int32) (T : qm_F) (gx gm : Nat → qm_F → Int32 → Int32 → Option (Int32 × qm_F)) (L : List (Nat × Nat)) (br lt : Nat) : Prop :=
  ∀ (φ ψ : qm_F) (t sz cd ns : Nat), ys_S n cnt b T t sz cd ns br lt L φ ψ → sz ≤ t → cd ≤ t → ns ≤ 24 → ys_beg (T 0 t) →
    (∃ φ' ψ' t' sz' cd' ns', gx 1 φ (Int32.ofNat br) (Int32.ofNat lt) = some (1, φ') ∧ gm 1 ψ 0 0 = some (1, ψ') ∧ ys_G n cnt b T L br lt φ ψ t sz cd (144 + 6 * ns) φ' ψ' t' sz' cd' ns' ∧ t < t' ∧ sz' + t ≤ sz + t' ∧ cd' + t ≤ cd + t' ∧ ns' ≤ 24 ∧ yl_st (ys_Z φ' ψ') (ys_T ψ') cd' (YL (ys_Z φ' ψ') (ys_T ψ') cd') br ns ns' sz sz') ∨
    (∃ φ' ψ', gx 1 φ (Int32.ofNat br) (Int32.ofNat lt) = some (0, φ') ∧ gm 1 ψ 0 0 = some (0, ψ') ∧ ys_bad φ ψ φ' ψ')
theorem ys_blk (hK : yk_TK F n cnt b T) {gx gm : Nat → qm_F → Int32 → Int32 → Option (Int32 × qm_F)} (hst : ys_stc n cnt b T gx gm L br lt) (lp : Nat → qm_F → Option (Int32 × qm_F))
    (hlp : ∀ (m t cd : Nat) (ψ : qm_F), yp_M n b T t cd ψ → t < cnt → ys_beg (T 0 t) → lp (m + 1) ψ = qb2 (gm 1 ψ 0 0) fun y ψ' => if ¬ y = 0 then lp m ψ' else some (0, ψ')) :
    ∀ (m m' i t sz cd ns : Nat) (φ ψ : qm_F), cnt + 2 ≤ m + t → cnt + 2 ≤ m' + t → i ≤ t → ys_S n cnt b T t sz cd ns br lt L φ ψ → sz ≤ t → cd ≤ t → ns ≤ 24 →
    (∃ φ' ψ' t' sz' cd' ns' m'', pa_block_L2 F nR n cnt gx m φ (Int32.ofNat br) (Int32.ofNat lt) (Int32.ofNat i) = some (1, φ') ∧ lp m' ψ = lp m'' ψ' ∧ cnt + 2 ≤ m'' + t' ∧ ¬ ys_beg (T 0 t') ∧ ys_G n cnt b T L br lt φ ψ t sz cd (144 + 6 * ns) φ' ψ' t' sz' cd' ns' ∧ sz' + t ≤ sz + t' ∧ cd' + t ≤ cd + t' ∧ ns ≤ ns' ∧ ns' ≤ 24 ∧ YL (ys_Z φ' ψ') (ys_T ψ') cd' br ns ns' sz sz') ∨
    (∃ φ' ψ', pa_block_L2 F nR n cnt gx m φ (Int32.ofNat br) (Int32.ofNat lt) (Int32.ofNat i) = some (0, φ') ∧ lp m' ψ = some (0, ψ') ∧ ys_bad φ ψ φ' ψ') := by
  have hcn := yk_cn hK
  intro m
  induction m with
  | zero => intro m' i t sz cd ns φ ψ h1 h2 h3 hS; have := hS.1; omega
  | succ m ih =>
    intro m' i t sz cd ns φ ψ h1 h2 h3 hS hsz hcd hns
    have ht := hS.1
    obtain ⟨m', rfl⟩ : ∃ z, m' = z + 1 := ⟨m' - 1, by omega⟩
    have hx : pa_block_L2 F nR n cnt gx (m + 1) φ (Int32.ofNat br) (Int32.ofNat lt) (Int32.ofNat i) = qb1 (pa_beginsStatement F nR n cnt φ) fun y2 => if y2 = 0 then some (1, φ) else qb2 (gx 1 φ (Int32.ofNat br) (Int32.ofNat lt)) fun y3 φ1 => if ¬ y3 = 0 then pa_block_L2 F nR n cnt gx m φ1 (Int32.ofNat br) (Int32.ofNat lt) (Int32.ofNat (i + 1)) else some (0, φ1) := by
      conv => lhs; unfold pa_block_L2 to_count
      rw [hS.2.1.2.1, ya_add1]
      simp only [yb1]
      rw [if_neg (by rw [ya_le (by omega) (by omega)]; omega)]
    rcases ys_begx (nR := nR) hK hS.2.1 ht with ⟨hb, e⟩ | ⟨hb, e⟩
    · rw [e] at hx
      simp only [yb1] at hx
      rw [if_neg (by decide)] at hx
      have hm := hlp m' t cd ψ hS.2.2.1 ht hb
      rcases hst φ ψ t sz cd ns hS hsz hcd hns hb with ⟨φ1, ψ1, t1, sz1, cd1, ns1, x1, x2, hG, l1, l2, l3, l4, hl⟩ | ⟨φ1, ψ1, x1, x2, hbad⟩
      · rw [x1] at hx
        rw [x2] at hm
        simp only [yb2] at hx hm
        rw [if_pos (by decide)] at hx hm
        have hlt := hl.2.2.1
        have hlp' := hl.2.2.2.1
        rcases ih m' (i + 1) t1 sz1 cd1 ns1 φ1 ψ1 (by omega) (by omega) (by omega) hG.1 (by omega) (by omega) l4 with ⟨φ2, ψ2, t2, sz2, cd2, ns2, m2, y1, y2, y3, y4, hG2, k1, k2, k3, k4, hY⟩ | ⟨φ2, ψ2, y1, y2, hbad⟩
        · rw [y1] at hx
          rw [y2] at hm
          obtain ⟨v1, v2, v3⟩ := ys_carry hG2.2.1 hG2.2.2.1
          refine Or.inl ⟨φ2, ψ2, t2, sz2, cd2, ns2, m2, hx, hm, y3, y4, hG.trans hG2 (by omega), by omega, by omega, by omega, k4, YL.cons (hl.cg hG2.2.2.2.2.2.1 v1 (fun j _ hj => v2 j hj) (fun k hk => v3 ns hlt k hk) ?_) hY k3 hG2.2.2.2.2.1⟩
          intro s1 e1 p1 q1 w1 w2 w3 w4 hB
          exact hB.cg hG2.2.2.2.2.2.1 v1 (fun j _ hj => v2 j (by omega)) (fun s2 _ hs k hk => v3 s2 (by omega) k hk)
        · rw [y1] at hx
          rw [y2] at hm
          exact Or.inr ⟨φ2, ψ2, hx, hm, hbad.pre hG.2.1.lo (hG.2.2.1.cf (by omega))⟩
      · rw [x1] at hx
        rw [x2] at hm
        simp only [yb2] at hx hm
        rw [if_neg (by decide)] at hx hm
        exact Or.inr ⟨φ1, ψ1, hx, hm, hbad⟩
    · rw [e] at hx
      simp only [yb1] at hx
      rw [if_pos (by first | trivial | decide)] at hx
      exact Or.inl ⟨φ, ψ, t, sz, cd, ns, m' + 1, hx, rfl, h2, hb, ⟨hS, fun _ _ _ _ _ _ _ _ => rfl, fun _ _ _ _ _ _ _ => rfl, Nat.le_refl _, Nat.le_refl _, Nat.le_refl _, fun s x1 x2 => by omega⟩, by omega, by omega, Nat.le_refl _, hns, YL.nil⟩
/-- a braced block -/
def ys_brc (n cnt : Nat) (b : Nat → Int32) (T : qm_F) (fx fm : qm_F → Option (Int32 × qm_F)) (L : List (Nat × Nat)) (br lt : Nat) : Prop :=
  ∀ (φ ψ : qm_F) (t sz cd ns : Nat), ys_S n cnt b T t sz cd ns br lt L φ ψ → sz ≤ t + 1 → cd ≤ t → ns ≤ 24 →
    (∃ φ' ψ' t' sz' cd' ns', fx φ = some (1, φ') ∧ fm ψ = some (1, ψ') ∧ ys_G n cnt b T L br lt φ ψ t sz cd (144 + 6 * ns) φ' ψ' t' sz' cd' ns' ∧ t + 2 ≤ t' ∧ sz' + t + 2 ≤ sz + t' ∧ cd' + t ≤ cd + t' ∧ ns ≤ ns' ∧ ns' ≤ 24 ∧ br ≤ 3 ∧ YL (ys_Z φ' ψ') (ys_T ψ') cd' (br + 1) ns ns' sz sz') ∨
    (∃ φ' ψ', fx φ = some (0, φ') ∧ fm ψ = some (0, ψ') ∧ ys_bad φ ψ φ' ψ')
theorem ys_S.bl (h : ys_S n cnt b T t sz cd ns br lt L φ ψ) (br' : Nat) : ys_S n cnt b T t sz cd ns br' lt L φ (qm_u ψ 0 29 (Int32.ofNat br')) := by
  obtain ⟨a1, a2, ⟨⟨c1, c2⟩, ⟨d1, d2, d3, d4, d5⟩, c3, c4, c5⟩, a4, a5, a6, a7, a8, a9⟩ := h
  exact ⟨a1, a2, ⟨⟨c1, c2⟩, ⟨d1, d2, d3, d4, d5⟩, c3, c4, c5⟩, a4.fr (fun _ _ _ => rfl) (fun _ _ => rfl), a5, a6, rfl, a8, a9⟩
theorem ys_u29 (ψ : qm_F) (v : Int32) : ∀ a j, ¬ (a = 0 ∧ j = 29) → qm_u ψ 0 29 v a j = ψ a j := by
  intro a j h
  unfold qm_u
  repeat' split
  all_goals first | rfl | omega
theorem ys_braced (hF : 2000 ≤ F) (hK : yk_TK F n cnt b T) (hbr : br ≤ 4) {gx gx2 gm gm2 : Nat → qm_F → Int32 → Int32 → Option (Int32 × qm_F)} (hg : ∀ φ (x y : Int32), gx 0 φ x y = pa_block F nR n cnt gx2 φ x y) (hg2 : ∀ ψ, gm 1 ψ 0 0 = mo_statementHere F gm2 ψ)
    (hst : br < 4 → ys_stc n cnt b T gx2 gm L (br + 1) lt) : ys_brc n cnt b T (fun φ => pa_braced F nR n cnt gx φ (Int32.ofNat br) (Int32.ofNat lt)) (fun ψ => mo_block F gm ψ) L br lt := by
  have hcn := yk_cn hK
  have e4 : (4 : Int32) = Int32.ofNat 4 := rfl
  intro φ ψ t sz cd ns hS hsz hcd hns
  have h' := hS
  obtain ⟨ht, hX, hM, -, -, -, h29, -⟩ := h'
  dsimp only
  by_cases q : T 0 t = 123
  · by_cases qb : br < 4
    · obtain ⟨ψ1, e1, S1, f1⟩ := ys_next hK (hS.bl (br + 1)) (by rw [q]; decide) (by rw [q]; decide)
      have hm : mo_block F gm ψ = mo_block_L51 F gm F ψ1 := by
        unfold mo_block mo_block_L28
        rw [ym_sign hK hM ht 123 (by decide), if_pos q]
        simp only [yb1]
        rw [ym_must1 hM]
        simp only [yb2]
        rw [if_neg (by decide), h29, e4, if_neg (by rw [ya_le (by omega) (by omega)]; omega), ym_must1 hM]
        simp only [yb2]
        rw [if_pos (by decide), h29, ya_add1, e1]
        rfl
      have hx : pa_braced F nR n cnt gx φ (Int32.ofNat br) (Int32.ofNat lt) = qb2 (pa_block_L2 F nR n cnt gx2 F (qm_u φ 10 3 (Int32.ofNat (t + 1))) (Int32.ofNat (br + 1)) (Int32.ofNat lt) (Int32.ofNat 0)) fun y2 φ1 => if y2 = 0 then some (0, φ1) else qb2 (pa_take F nR n cnt φ1 125) fun y3 φ2 => if y3 = 0 then some (0, φ2) else some (1, φ2) := by
        unfold pa_braced
        rw [yx_kind hX ht (by omega) (by omega)]
        simp only [yb1]
        rw [if_pos q, e4, if_pos (by rw [ya_lt (by omega) (by omega)]; omega), hg, hX.1, ya_add1, ya_add1]
        rfl
      have gx1 : ys_gx φ (qm_u φ 10 3 (Int32.ofNat (t + 1))) := ys_xgx _
      have gm1 : ys_fm cd (144 + 6 * ns) lt ψ ψ1 := by
        intro a j x1 x2 x3 x4 x5
        rw [f1 a j (by omega), ys_u29 ψ _ a j (by omega)]
      have mk1 : ye_mk T ψ φ t := ⟨fun z => by rw [q] at z; exact absurd z (by decide), fun _ => hX.2.2.1 t (Nat.le_refl _) ht⟩
      rcases ys_blk (nR := nR) (L := L) hK (hst qb) (mo_block_L51 F gm) (fun m t cd ψ hM ht hb => by
          conv => lhs; unfold mo_block_L51
          have : T 0 t ≠ 125 := by unfold ys_beg at hb; rcases hb with z | z | z | z | z | z <;> rw [z] <;> decide
          rw [ym_sign hK hM ht 125 (by decide), if_neg this]
          simp only [yb1]
          rw [if_neg (by simp)]) F F 0 (t + 1) sz cd ns _ ψ1 (by omega) (by omega) (by omega) S1 (by omega) (by omega) hns with ⟨φ2, ψ2, t2, sz2, cd2, ns2, m2, y1, y2, y3, y4, hG2, k1, k2, k3, k4, hY⟩ | ⟨φ2, ψ2, y1, y2, hbad⟩
      · rw [y1] at hx
        rw [y2] at hm
        simp only [yb2] at hx
        rw [if_neg (by decide)] at hx
        have hG := hG2
        obtain ⟨S2, g2, g3, g4, g5, g6, g7⟩ := hG2
        have ht2 := S2.1
        obtain ⟨m2, rfl⟩ : ∃ z, m2 = z + 1 := ⟨m2 - 1, by omega⟩
        by_cases q2 : T 0 t2 = 125
        · obtain ⟨ψ3, e3, S3, f3⟩ := ys_next hK S2 (by rw [q2]; decide) (by rw [q2]; decide)
          have hx3 : pa_braced F nR n cnt gx φ (Int32.ofNat br) (Int32.ofNat lt) = some (1, qm_u φ2 10 3 (Int32.ofNat (t2 + 1))) := by
            rw [hx, yx_take S2.2.1 ht2 (by omega) (by omega), if_pos q2]
            rfl
          have hm3 : mo_block F gm ψ = some (1, qm_u ψ3 0 29 (Int32.ofNat br)) := by
            rw [hm]
            unfold mo_block_L51
            rw [ym_sign hK S2.2.2.1 ht2 125 (by decide), if_pos q2, e3]
            simp only [yb1]
            rw [if_pos (by decide), S3.2.2.2.2.2.2.1, ya_sub1 (by omega), Nat.add_sub_cancel]
          have fxa : ys_fx L.length t sz φ (qm_u φ2 10 3 (Int32.ofNat (t2 + 1))) := ((gx1.fx _ _ _).trans g2 (Nat.le_refl _) (by omega) (Nat.le_refl _)).trans ((ys_xgx (t2 + 1)).fx L.length t2 sz2) (Nat.le_refl _) (by omega) (by omega)
          have fma : ys_fm cd (144 + 6 * ns) lt ψ (qm_u ψ3 0 29 (Int32.ofNat br)) := by
            intro a j x1 x2 x3 x4 x5
            rw [ys_u29 _ _ a j (by omega), f3 a j (by omega), g3 a j x1 (by omega) x3 (by omega) (by omega)]
            exact gm1 a j x1 x2 x3 x4 x5
          refine Or.inl ⟨_, _, t2 + 1, sz2, cd2, ns2, hx3, hm3, ⟨S3.bl br, fxa, fma, by omega, by omega, by omega, ?_⟩, by omega, by omega, by omega, k3, k4, by omega, ?_⟩
          · intro s x1 x2
            by_cases z1 : s = t
            · subst z1
              exact mk1.fr (g2 6 s (by omega) (by omega) (by omega) (by omega) (by omega) (by omega)) (g2 9 s (by omega) (by omega) (by omega) (by omega) (by omega) (by omega)) (fun _ _ => rfl)
            · by_cases z2 : s < t2
              · exact (g7 s (by omega) z2).fr rfl rfl (fun k hk => (gm1 3 _ (by omega) (by omega) (by omega) (by omega) (by omega)).symm)
              · have : s = t2 := by omega
                subst this
                exact ⟨fun z => by rw [q2] at z; exact absurd z (by decide), fun _ => S2.2.1.2.2.1 s (Nat.le_refl _) ht2⟩
          · exact hY.cg (Nat.le_refl _) (fun i _ => ⟨f3 7 _ (by omega), f3 8 _ (by omega)⟩) (fun i _ _ => ⟨rfl, rfl, rfl⟩) (fun s1 _ _ k _ => f3 6 _ (by omega))
        · refine Or.inr ⟨_, _, ?_, ?_, (ys_fault (f := 1) S2 (by decide) (ys_lo0 _) (ys_cf0 _)).pre ((gx1.lo).trans g2.lo) ((gm1.cf (by omega)).trans (g3.cf (by omega)))⟩
          · rw [hx, yx_take S2.2.1 ht2 (by omega) (by omega), if_neg q2]
            rfl
          · rw [hm]
            unfold mo_block_L51
            rw [ym_sign hK S2.2.2.1 ht2 125 (by decide), if_neg q2, hg2, ys_nost hK S2 y4]
            rfl
      · rw [y1] at hx
        rw [y2] at hm
        exact Or.inr ⟨φ2, ψ2, by rw [hx]; rfl, hm, hbad.pre gx1.lo (gm1.cf (by omega))⟩
    · refine Or.inr ⟨_, _, ?_, ?_, ys_fault (f := 5) hS (by decide) (ys_lo0 _) (ys_cf0 _)⟩
      · unfold pa_braced
        rw [yx_kind hX ht (by omega) (by omega)]
        simp only [yb1]
        rw [if_pos q, e4, if_neg (by rw [ya_lt (by omega) (by omega)]; omega), yx_fail hX ht (by omega) (by omega)]
        rfl
      · unfold mo_block mo_block_L28
        rw [ym_sign hK hM ht 123 (by decide), if_pos q]
        simp only [yb1]
        rw [ym_must1 hM]
        simp only [yb2]
        rw [if_neg (by decide), h29, e4, if_pos (by rw [ya_le (by omega) (by omega)]; omega), ym_must0 hM (by decide)]
        rfl
  · refine Or.inr ⟨_, _, ?_, ?_, ys_fault (f := 1) hS (by decide) (ys_lo0 _) (ys_cf0 _)⟩
    · unfold pa_braced
      rw [yx_kind hX ht (by omega) (by omega)]
      simp only [yb1]
      rw [if_neg q, yx_fail hX ht (by omega) (by omega)]
      rfl
    · unfold mo_block
      rw [ym_sign hK hM ht 123 (by decide), if_neg q]
      simp only [yb1]
      rw [ym_must0 hM (by decide)]
      rfl
end Y10
