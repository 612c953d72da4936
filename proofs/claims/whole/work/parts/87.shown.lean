/-! SEMANTICS: shown, the whole -/
/-- one token as both hold it -/
def sh_t (F n : Nat) (c : Nat → Nat) (Hb : List Nat) (φ0 ψ0 : qm_F) (s t : Nat) : Prop :=
  ∃ q l hk, φ0 7 s = Int32.ofNat q ∧ φ0 8 s = Int32.ofNat l ∧ ψ0 12 t = Int32.ofNat q ∧ ψ0 13 t = Int32.ofNat (q + l) ∧ q + l ≤ n ∧ 1 ≤ l ∧ l ≤ 6 ∧
    (∀ j, q ≤ j → j < q + l → c j < 128 ∧ ψ0 11 j = Int32.ofNat (c j)) ∧ (∀ ψ, sm_st ψ0 ψ → mo_holeAt F ψ (Int32.ofNat q) (Int32.ofNat (q + l)) = some hk) ∧
    ((hk = -1 ∧ φ0 6 s = 48 ∧ φ0 9 s = Int32.ofNat (zk_v c q l) ∧ l ≤ 5 ∧ (∀ j, j < l → zk_dg (c (q + j)))) ∨
     (∃ k, k < Hb.length ∧ hk = Int32.ofNat k ∧ φ0 6 s = 2 ∧ φ0 9 s = Int32.ofNat k) ∨
     (hk = -1 ∧ φ0 6 s ≠ 48 ∧ φ0 6 s ≠ 2 ∧ ¬ zk_dg (c q)))
def sh_S (F n fs N : Nat) (c : Nat → Nat) (Hb : List Nat) (φ0 ψ0 : qm_F) : Prop :=
  fs + N ≤ n ∧ n ≤ 800 ∧ φ0 4 5 = Int32.ofNat (fs + N + 1) ∧ φ0 14 17 = Int32.ofNat fs ∧ ψ0 14 0 = Int32.ofNat N ∧ (∀ j, j < n → φ0 5 j = Int32.ofNat (c j)) ∧ ∀ t, t < N → sh_t F n c Hb φ0 ψ0 (fs + t) t
section S14
variable {F nR nT gg nI u n fs N : Nat} {φ0 ψ0 φ ψ ψb : qm_F} {V : Nat → Nat → Nat} {Hb : List Nat} {x : Int32} {L : List Nat} {c : Nat → Nat}
theorem sh_val {g k : Nat} (hg : g < 128) (hs : Hb.sum ≤ 7) (hk : k < Hb.length) : ∃ v, v < 128 ∧ rp_v Hb g k = Int32.ofNat v := by
  have h1 : rp_sh Hb k ≤ 7 := Nat.le_trans (rp_sumle Hb (k + 1)) hs
  have h2 := rp_drop Hb hk
  have h3 := rp_sumle Hb k
  have a1 : g / 2 ^ rp_sh Hb k < 128 := Nat.lt_of_le_of_lt (Nat.div_le_self _ _) hg
  refine ⟨g / 2 ^ rp_sh Hb k % 2 ^ (Hb.getD k 0), Nat.lt_of_le_of_lt (Nat.mod_le _ _) a1, ?_⟩
  unfold rp_v
  rw [sf_b3 (Hb.getD k 0) (by omega) _ a1]
theorem sh_tok (hF : 200000 ≤ F) (hn : n ≤ 800) (hP : ss_P Hb φ0 ψ0) (hx : sx_st φ0 φ) {s t cnt : Nat} (hs : s + 1 < cnt) (hc : cnt ≤ n + 1) (h4 : φ0 4 5 = Int32.ofNat cnt) (h5 : ∀ j, j < n → φ0 5 j = Int32.ofNat (c j)) (ht : t < 800) (h : sh_t F n c Hb φ0 ψ0 s t) {g : Nat} (hg : g < 128) :
    ∃ B : List Nat, 1 ≤ B.length ∧ B.length ≤ 6 ∧ pr_shownLength F nR n nT φ (Int32.ofNat g) (Int32.ofNat s) = some (Int32.ofNat B.length) ∧
      (∀ j, j < B.length → pr_byteOfToken F nR n nT φ (Int32.ofNat g) (Int32.ofNat s) (Int32.ofNat j) = some (Int32.ofNat (B.getD j 0))) ∧
      (∀ ψb L ψ x, sm_st ψ0 ψb → sh_W ψb x L ψ → L.length < 80000 → ∃ ψ', mo_writesToken F ψ (Int32.ofNat g) (Int32.ofNat t) = some ψ' ∧ sh_W ψb x (L ++ B) ψ') := by
  obtain ⟨q, l, hk, a1, a2, a3, a4, a5, a6, a7, a8, a9, hh⟩ := h
  have ex : ∀ a j, 4 ≤ a → a ≤ 24 → φ a j = φ0 a j := hx.1
  have k6 : to_kindOf F nR n φ (Int32.ofNat s) = some (φ0 6 s) := by
    unfold to_kindOf
    rw [ex 4 5 (by omega) (by omega), h4, if_neg (ya_lt0 (by omega)), if_neg (by rw [ya_le (by omega) (by omega)]; omega), ya_in (by omega) (by omega), ya_nn (by omega), ex 6 s (by omega) (by omega)]
    rfl
  have k7 : to_placeOf F nR n φ (Int32.ofNat s) = some (Int32.ofNat q) := by
    unfold to_placeOf
    rw [ex 4 5 (by omega) (by omega), h4, if_neg (ya_lt0 (by omega)), if_neg (by rw [ya_le (by omega) (by omega)]; omega), ya_in (by omega) (by omega), ya_nn (by omega), ex 7 s (by omega) (by omega), a1]
    rfl
  have k8 : to_lengthOf F nR n φ (Int32.ofNat s) = some (Int32.ofNat l) := by
    unfold to_lengthOf
    rw [ex 4 5 (by omega) (by omega), h4, if_neg (ya_lt0 (by omega)), if_neg (by rw [ya_le (by omega) (by omega)]; omega), ya_in (by omega) (by omega), ya_nn (by omega), ex 8 s (by omega) (by omega), a2]
    rfl
  have k9 : to_numberOf F nR n φ (Int32.ofNat s) = some (φ0 9 s) := by
    unfold to_numberOf
    rw [ex 4 5 (by omega) (by omega), h4, if_neg (ya_lt0 (by omega)), if_neg (by rw [ya_le (by omega) (by omega)]; omega), ya_in (by omega) (by omega), ya_nn (by omega), ex 9 s (by omega) (by omega)]
    rfl
  have wst : ∀ {ψb L ψ x}, sm_st ψ0 ψb → sh_W ψb x L ψ → sm_st ψ0 ψ := fun b w a j z => by rw [w.1 a j (by omega)]; exact b a j z
  have wt : ∀ {ψb L ψ x}, sm_st ψ0 ψb → sh_W ψb x L ψ → mo_writesToken F ψ (Int32.ofNat g) (Int32.ofNat t) = if hk < 0 then mo_writesToken_L41 F F ψ (Int32.ofNat q) (Int32.ofNat (q + l)) else qb1 (mo_holeIn F ψ (Int32.ofNat g) hk) fun y2 => qb1 (mo_writesNumber F ψ y2) fun φ1 => some φ1 := by
    intro ψb L ψ x b w
    unfold mo_writesToken
    rw [ya_in (by omega) (by omega), ya_nn (by omega), (wst b w) 12 t (by omega), (wst b w) 13 t (by omega), a3, a4, a9 ψ (wst b w)]
    rfl
  -- a number v with the digits of v
  have nums : ∀ v, v < 100000 → pr_isShownAsNumber F nR n nT φ (Int32.ofNat s) = some 1 → pr_shownNumber F nR n nT φ (Int32.ofNat g) (Int32.ofNat s) = some (Int32.ofNat v) → 1 ≤ (yt_d (yt_n v) v).length ∧ (yt_d (yt_n v) v).length ≤ 6 ∧ pr_shownLength F nR n nT φ (Int32.ofNat g) (Int32.ofNat s) = some (Int32.ofNat (yt_d (yt_n v) v).length) ∧
      (∀ j, j < (yt_d (yt_n v) v).length → pr_byteOfToken F nR n nT φ (Int32.ofNat g) (Int32.ofNat s) (Int32.ofNat j) = some (Int32.ofNat ((yt_d (yt_n v) v).getD j 0))) := by
    intro v hv e1 e2
    have hb : 1 ≤ yt_n v ∧ yt_n v ≤ 5 := by unfold yt_n; (repeat' split) <;> omega
    rw [yt_len]
    refine ⟨by omega, by omega, ?_, fun j hj => ?_⟩
    · unfold pr_shownLength
      rw [e1]
      simp only [yb1]
      rw [if_neg (by decide), e2]
      simp only [yb1]
      rw [yt_digitsOf hF hv]
      rfl
    · unfold pr_byteOfToken
      rw [e1]
      simp only [yb1]
      rw [if_pos (by decide), e2]
      simp only [yb1]
      rw [yt_digitsOf hF hv]
      simp only [yb1]
      rw [ya_sub1 (by omega), show yt_n v - 1 = (yt_n v - 1 - j) + j by omega, yt_L35 _ _ _ _ (by omega) (by omega) (by omega), List.getD_eq_getElem?_getD, yt_get _ _ _ hj]
      rfl
  rcases hh with ⟨q1, q2, q3, q4, q5⟩ | ⟨k, q1, q2, q3, q4⟩ | ⟨q1, q2, q3, q4⟩
  · have e1 : pr_isShownAsNumber F nR n nT φ (Int32.ofNat s) = some 1 := by
      unfold pr_isShownAsNumber
      rw [k6, q2]
      rfl
    have hv : zk_v c q l < 100000 := Nat.lt_of_lt_of_le (yt_lt l q5) (by
      have : 10 ^ l ≤ 10 ^ 5 := Nat.pow_le_pow_right (by omega) q4
      exact this)
    have e2 : pr_shownNumber F nR n nT φ (Int32.ofNat g) (Int32.ofNat s) = some (Int32.ofNat (zk_v c q l)) := by
      unfold pr_shownNumber
      rw [k9, k6, q2, q3]
      simp only [yb1]
      rw [if_pos (by decide)]
    obtain ⟨b1, b2, b3, b4⟩ := nums _ hv e1 e2
    refine ⟨_, b1, b2, b3, b4, fun ψb L ψ x hb w hL => ?_⟩
    rw [wt hb w, q1, if_pos (by decide)]
    exact sh_41 hF (by omega) l F q L ψ (by omega) (by omega) a6 q4 w hL (fun j y1 y2 => by rw [hb 11 j (by omega)]; exact (a8 j y1 y2).2) q5
  · have e1 : pr_isShownAsNumber F nR n nT φ (Int32.ofNat s) = some 1 := by
      unfold pr_isShownAsNumber
      rw [k6, q3]
      rfl
    obtain ⟨v, hv, ev⟩ := sh_val hg hP.2.1 q1
    have e2 : pr_shownNumber F nR n nT φ (Int32.ofNat g) (Int32.ofNat s) = some (Int32.ofNat v) := by
      unfold pr_shownNumber
      rw [k9, k6, q3, q4]
      simp only [yb1]
      rw [if_neg (by decide), sx_value hF hP hx (by omega) q1, ev]
      rfl
    obtain ⟨b1, b2, b3, b4⟩ := nums _ (by omega) e1 e2
    refine ⟨_, b1, b2, b3, b4, fun ψb L ψ x hb w hL => ?_⟩
    have hk5 := hP.1
    rw [wt hb w, q2, if_neg (ya_lt0 (by omega)), sm_hole hF hP (wst hb w) (by omega) q1, ev]
    simp only [yb1]
    obtain ⟨ψ', r1, r2⟩ := sh_num hF hv w hL
    rw [r1]
    exact ⟨ψ', rfl, r2⟩
  · have e1 : pr_isShownAsNumber F nR n nT φ (Int32.ofNat s) = some 0 := by
      unfold pr_isShownAsNumber
      rw [k6]
      simp only [yb1]
      rw [if_neg q2]
      simp only [if_pos q3]
    refine ⟨(List.range l).map (fun j => c (q + j)), by simp; omega, by simp; omega, ?_, fun j hj => ?_, fun ψb L ψ x hb w hL => ?_⟩
    · unfold pr_shownLength
      rw [e1]
      simp only [yb1]
      rw [if_pos trivial, k8]
      simp
      rfl
    · rw [List.length_map, List.length_range] at hj
      unfold pr_byteOfToken
      rw [e1]
      simp only [yb1]
      rw [if_neg (by decide)]
      unfold to_byteOf
      rw [k7]
      simp only [yb1]
      rw [ya_add, if_neg (ya_lt0 (by omega)), decide_eq_true (show n < 2147483648 by omega)]
      simp only [yg1]
      rw [if_neg (by rw [ya_le (by omega) (by omega)]; omega), ya_in (by omega) (by omega), ya_nn (by omega), ex 5 _ (by omega) (by omega), h5 _ (by omega)]
      simp only [yg1, yb1]
      rw [List.getD_eq_getElem?_getD, List.getElem?_map, List.getElem?_range hj]
      rfl
    · rw [wt hb w, q1, if_pos (by decide)]
      obtain ⟨z, hz⟩ : ∃ z, F = z + 1 := ⟨F - 1, by omega⟩
      have c1 := a8 q (Nat.le_refl _) (by omega)
      have : mo_writesToken_L41 F F ψ (Int32.ofNat q) (Int32.ofNat (q + l)) = mo_writesToken_L81 F F ψ (Int32.ofNat (q + l)) (Int32.ofNat q) := by
        conv => lhs; rw [hz]; unfold mo_writesToken_L41
        rw [← hz, ya_in (by omega) (by omega), ya_nn (by omega), w.1 11 q (by omega), hb 11 q (by omega), c1.2, sh_dig ψ c1.1, if_neg (by unfold zk_dg at q4; exact q4)]
        rfl
      rw [this]
      exact sh_81 (by omega) l F q L ψ (by omega) (by omega) w (by omega) (fun j y1 y2 => by rw [hb 11 j (by omega)]; exact (a8 j y1 y2).2)
theorem sh_loop (hF : 200000 ≤ F) (hP : ss_P Hb φ0 ψ0) (hx : sx_st φ0 φ) (hS : sh_S F n fs N c Hb φ0 ψ0) (hb : sm_st ψ0 ψb) {g : Nat} (hg : g < 128) : ∀ (k t : Nat), k + t = N →
    ∃ R : List Nat, R.length ≤ 7 * k ∧ (k = 0 → R = []) ∧
      (∀ m a, k + 1 ≤ m → a + 7 * k < 80000 → pr_shownBytes_L7 F nR n nT m φ (Int32.ofNat g) (Int32.ofNat a) (Int32.ofNat (fs + t)) = some (Int32.ofNat (a + R.length + (if t = 0 ∨ k = 0 then 0 else 1)))) ∧
      (∀ m r, 2 * k + 1 ≤ m → r < 2147483648 → pr_shownByte_L8 F nR n nT m 0 φ (Int32.ofNat g) (Int32.ofNat r) (Int32.ofNat (fs + t)) 0 = some (match R[r]? with | some b => Int32.ofNat b | none => -1)) ∧
      (∀ m L ψ x2, 2 * k + 1 ≤ m → L.length + 7 * k < 60000 → sh_W ψb x2 L ψ → ∃ ψ', mo_shown_L37 F m 0 ψ (Int32.ofNat g) x2 (Int32.ofNat t) = some (if x2 = -1 then ψ' 0 49 else ψ' 0 50, ψ') ∧ sh_W ψb x2 (L ++ ((if t = 0 ∨ k = 0 then [] else [32]) ++ R)) ψ') := by
  obtain ⟨s1, s2, s3, s4, s5, s6, s7⟩ := hS
  have ce : pr_shownEnd F nR n nT φ = some (Int32.ofNat (fs + N)) := by
    unfold pr_shownEnd to_count
    rw [hx.1 4 5 (by omega) (by omega), s3]
    simp only [yb1]
    rw [ya_sub1 (by omega)]
    rfl
  have c17 : φ 14 17 = Int32.ofNat fs := by rw [hx.1 14 17 (by omega) (by omega)]; exact s4
  intro k
  induction k with
  | zero =>
    intro t ht
    refine ⟨[], by simp, fun _ => rfl, fun m a h1 h2 => ?_, fun m r h1 h2 => ?_, fun m L ψ x2 h1 h2 w => ?_⟩
    · obtain ⟨m, rfl⟩ : ∃ z, m = z + 1 := ⟨m - 1, by omega⟩
      unfold pr_shownBytes_L7
      rw [ce]
      simp only [yb1]
      rw [if_pos (by rw [ya_le (by omega) (by omega)]; omega)]
      simp
    · obtain ⟨m, rfl⟩ : ∃ z, m = z + 1 := ⟨m - 1, by omega⟩
      unfold pr_shownByte_L8
      rw [if_pos rfl, ce]
      simp only [yb1]
      rw [if_pos (by rw [ya_le (by omega) (by omega)]; omega)]
      simp
    · obtain ⟨m, rfl⟩ : ∃ z, m = z + 1 := ⟨m - 1, by omega⟩
      refine ⟨ψ, ?_, by simpa using w⟩
      unfold mo_shown_L37
      rw [if_pos rfl, w.1 14 0 (by omega), hb 14 0 (by omega), s5, if_pos (by rw [ya_le (by omega) (by omega)]; omega)]
      by_cases z : x2 = -1
      · rw [if_neg (not_not_intro z), if_pos z]
      · rw [if_pos z, if_neg z]
  | succ k ih =>
    intro t ht
    obtain ⟨R1, r1, r2, r3, r4, r5⟩ := ih (t + 1) (by omega)
    obtain ⟨B, b1, b2, b3, b4, b5⟩ := sh_tok (nR := nR) (nT := nT) hF s2 hP hx (s := fs + t) (t := t) (cnt := fs + N + 1) (by omega) (by omega) s3 s6 (by omega) (s7 t (by omega)) hg
    obtain ⟨sp, hsp⟩ : ∃ sp : List Nat, sp = if k = 0 then [] else [32] := ⟨_, rfl⟩
    have lsp : sp.length ≤ 1 := by rw [hsp]; split <;> simp
    refine ⟨B ++ (sp ++ R1), by rw [List.length_append, List.length_append]; omega, fun z => by omega, fun m a h1 h2 => ?_, fun m r h1 h2 => ?_, fun m L ψ x2 h1 h2 w => ?_⟩
    · obtain ⟨m, rfl⟩ : ∃ z, m = z + 1 := ⟨m - 1, by omega⟩
      unfold pr_shownBytes_L7
      rw [ce]
      simp only [yb1]
      rw [if_neg (by rw [ya_le (by omega) (by omega)]; omega), b3, c17]
      simp only [yb1]
      rw [ya_add1, ya_add1, show (0 : Int32) = Int32.ofNat 0 from rfl, ya_add, ya_add, ya_add, yi_le (by omega) (by omega), List.length_append, List.length_append]
      have el : sp.length = if k = 0 then 0 else 1 := by rw [hsp]; split <;> rfl
      by_cases z : t = 0
      · rw [if_pos (by omega), if_pos (Or.inl z), show fs + t + 1 = fs + (t + 1) by omega]
        rw [r3 m _ (by omega) (by omega)]
        congr 2
        rw [el]
        by_cases y : k = 0
        · rw [if_pos (Or.inr y), if_pos y]; omega
        · rw [if_neg (by omega), if_neg y]; omega
      · rw [if_neg (by omega), if_neg (by omega), show fs + t + 1 = fs + (t + 1) by omega, r3 m _ (by omega) (by omega)]
        congr 2
        rw [el]
        by_cases y : k = 0
        · rw [if_pos (Or.inr y), if_pos y]; omega
        · rw [if_neg (by omega), if_neg y]; omega
    · obtain ⟨m, rfl⟩ : ∃ z, m = z + 2 := ⟨m - 2, by omega⟩
      have tag : ∀ y : Nat, y ≤ 6 → pr_shownByte_L8 F nR n nT (m + 1) 1 φ (Int32.ofNat g) (Int32.ofNat r) (Int32.ofNat (fs + t)) (Int32.ofNat y) = if y + 1 ≤ r then pr_shownByte_L8 F nR n nT m 0 φ (Int32.ofNat g) (Int32.ofNat (r - (y + 1))) (Int32.ofNat (fs + (t + 1))) 0 else some (-1) := by
        intro y hy
        conv => lhs; unfold pr_shownByte_L8
        rw [if_neg (by omega), ya_add1, ya_add1]
        by_cases z : y + 1 ≤ r
        · rw [ya_sub z, if_pos (ya_ge0 (by omega)), if_pos z, show fs + t + 1 = fs + (t + 1) by omega]
        · rw [if_neg (by
            rw [Int32.le_iff_toInt_le, ya_tsub (by rw [ya_int (by omega), ya_int (by omega)]; omega) (by rw [ya_int (by omega), ya_int (by omega)]; omega), ya_int (by omega), ya_int (by omega)]
            rw [show (0 : Int32).toInt = 0 from rfl]
            omega), if_neg z]
      unfold pr_shownByte_L8
      rw [if_pos rfl, ce]
      simp only [yb1]
      rw [if_neg (by rw [ya_le (by omega) (by omega)]; omega), b3]
      simp only [yb1]
      rw [yi_le (by omega) h2, tag _ b2]
      by_cases z : B.length ≤ r
      · rw [if_pos z, List.getElem?_append_right z]
        by_cases y : r = B.length
        · rw [if_neg (not_not_intro (by rw [y])), ya_add1, yi_le (by omega) (by omega), y, Nat.sub_self]
          by_cases v : k = 0
          · rw [if_pos (by omega), if_neg (by omega), hsp, if_pos v, r2 v]
            rfl
          · rw [if_neg (by omega), hsp, if_neg v]
            rfl
        · rw [if_pos (by rw [ya_eq h2 (by omega)]; exact y), if_pos (by omega), r4 m _ (by omega) (by omega)]
          by_cases v : k = 0
          · rw [hsp, if_pos v, r2 v]
            simp
          · rw [hsp, if_neg v, List.getElem?_append_right (by simp; omega)]
            simp only [List.length_singleton]
            rw [show r - B.length - 1 = r - (B.length + 1) by omega]
      · rw [if_neg z, b4 r (by omega), List.getElem?_append_left (by omega), List.getD_eq_getElem?_getD, List.getElem?_eq_getElem (by omega)]
        rfl
    · obtain ⟨m, rfl⟩ : ∃ z, m = z + 2 := ⟨m - 2, by omega⟩
      have tag : ∀ ψ1 L1, sh_W ψb x2 L1 ψ1 → L1.length + 7 * k + 6 < 60000 → ∃ ψ', mo_shown_L37 F (m + 1) 1 ψ1 (Int32.ofNat g) x2 (Int32.ofNat t) = some (if x2 = -1 then ψ' 0 49 else ψ' 0 50, ψ') ∧ sh_W ψb x2 (L1 ++ (B ++ (sp ++ R1))) ψ' := by
        intro ψ1 L1 w1 hl
        obtain ⟨ψ2, e1, e2⟩ := b5 ψb L1 ψ1 x2 hb w1 (by omega)
        obtain ⟨ψ3, e3, e4⟩ := r5 m _ ψ2 x2 (by omega) (by rw [List.length_append]; omega) e2
        refine ⟨ψ3, ?_, ?_⟩
        · conv => lhs; unfold mo_shown_L37
          rw [if_neg (by omega), e1, ya_add1]
          exact e3
        · have : (if t + 1 = 0 ∨ k = 0 then ([] : List Nat) else [32]) = sp := by
            rw [hsp]
            by_cases v : k = 0
            · rw [if_pos (Or.inr v), if_pos v]
            · rw [if_neg (by omega), if_neg v]
          rw [this, List.append_assoc] at e4
          exact e4
      have st : mo_shown_L37 F (m + 2) 0 ψ (Int32.ofNat g) x2 (Int32.ofNat t) = if t ≤ 0 then mo_shown_L37 F (m + 1) 1 ψ (Int32.ofNat g) x2 (Int32.ofNat t) else qb1 (mo_writes F ψ 32) fun φ1 => mo_shown_L37 F (m + 1) 1 φ1 (Int32.ofNat g) x2 (Int32.ofNat t) := by
        conv => lhs; unfold mo_shown_L37
        rw [if_pos rfl, w.1 14 0 (by omega), hb 14 0 (by omega), s5, if_neg (by rw [ya_le (by omega) (by omega)]; omega), show (0 : Int32) = Int32.ofNat 0 from rfl, yi_le (by omega) (by omega)]
      rw [st]
      by_cases z : t = 0
      · rw [if_pos (by omega), if_pos (Or.inl z)]
        exact tag ψ L w (by omega)
      · rw [if_neg (by omega), if_neg (by omega)]
        obtain ⟨ψ1, e1, e2⟩ := sh_one (F := F) w (by omega) 32
        have e1' : mo_writes F ψ 32 = some ψ1 := e1
        rw [e1']
        obtain ⟨ψ2, e3, e4⟩ := tag ψ1 _ e2 (by rw [List.length_append, List.length_singleton]; omega)
        refine ⟨ψ2, e3, ?_⟩
        rw [List.append_assoc] at e4
        exact e4
end S14
section S14b
variable {F nR nN nT gg nI u nK o s tn fs N : Nat} {φ0 ψ0 φ ψ : qm_F} {Vf : Nat → Nat → Nat → Nat} {Hb : List Nat} {pn : Nat → Int32} {kp rk : Nat → Nat} {cur : Int32} {c : Nat → Nat}
theorem sb_D.v {ψ' : qm_F} (h : sb_D F nR nN nT gg nI φ0 ψ0 Vf Hb rk u nK o s tn pn kp cur φ ψ) (gm : ∀ a j, ¬ (a = 0 ∧ (j = 0 ∨ 46 ≤ j)) → ψ' a j = ψ a j) : sb_D F nR nN nT gg nI φ0 ψ0 Vf Hb rk u nK o s tn pn kp cur φ ψ' := by
  obtain ⟨a1, a2, a3, a4, a5, a6, a7, a8, ⟨b1, b2, b3⟩, ⟨c1, c2, c3⟩, ⟨d1, d2⟩, a12, ⟨e1, ⟨t1, t2, t3⟩, e3⟩⟩ := h
  refine ⟨a1, a2, a3, a4, a5, ⟨fun a j z => by rw [gm a j (by omega)]; exact a6.1 a j z, by rw [gm _ _ (by omega)]; exact a6.2.1, ?_⟩, a7, ?_, ⟨b1, by rw [gm _ _ (by omega)]; exact b2, b3⟩, ⟨c1, by rw [gm _ _ (by omega)]; exact c2, c3⟩, ⟨d1, by rw [gm _ _ (by omega)]; exact d2⟩, a12, ⟨by rw [gm _ _ (by omega)]; exact e1, ⟨t1, by rw [gm _ _ (by omega)]; exact t2, fun j hj => by rw [gm _ _ (by omega)]; exact t3 j hj⟩, e3⟩⟩
  · rw [gm 0 40 (by omega)]
    rcases a6.2.2 with z | ⟨z, z'⟩
    · exact Or.inl z
    · exact Or.inr ⟨z, fun g i x y => by rw [gm 19 _ (by omega)]; exact z' g i x y⟩
  · exact ⟨fun k hk => by rw [gm _ _ (by omega)]; exact a8.1 k hk, by rw [gm _ _ (by omega)]; exact a8.2.1, fun j hj => by rw [gm _ _ (by omega)]; exact a8.2.2.1 j hj, a8.2.2.2.1, fun j hj => by rw [gm _ _ (by omega)]; exact a8.2.2.2.2 j hj⟩
theorem so_shown (h : sb_D F nR nN nT gg nI φ0 ψ0 Vf Hb rk u nK o s tn pn kp cur φ ψ) (hS : sh_S F nN fs N c Hb φ0 ψ0) (x1 x2 : Int32) : sb_ask1 F nR nN nT gg nI φ0 ψ0 Vf Hb rk u nK o s tn pn kp cur φ (sf_shown F nR nN nT gg φ x1 x2) (mo_shown F ψ x1 x2) := by
  have H := h.1 u h.2.2.2.1
  have hF := ss_F H
  have hP := h.2.1
  have hx := h.2.2.2.2.1
  have hm := h.2.2.2.2.2.1.t 0
  have h12 : (qm_u ψ 0 0 0) 0 12 = 1 := h.2.2.2.2.2.2.2.2.2.2.2.2.1
  unfold sf_shown mo_shown
  rcases sg_guess H hx.1 hm.1 h12 x1 with ⟨g, hg, rfl, e1, e2⟩ | ⟨e1, e2⟩
  · rw [e1, e2]
    simp only [yb1]
    rw [if_neg (c := (1 : Int32) = 0) (by decide), if_neg (c := (1 : Int32) = 0) (by decide)]
    by_cases c0 : (-1) ≤ x2
    · rw [if_pos c0, if_pos c0]
      obtain ⟨R, r1, r2, r3, r4, r5⟩ := sh_loop (nR := nR) (nT := nT) hF.1 hP hx.1 hS hm.1 (g := g) (by omega) N 0 (by omega)
      have w0 : sh_W (qm_u ψ 0 0 0) x2 [] (qm_u (qm_u (qm_u (qm_u ψ 0 0 0) 0 48 x2) 0 49 0) 0 50 (-1)) := by
        refine ⟨fun a j z => ?_, by simp [qm_u], by simp [qm_u], ?_⟩
        · (unfold qm_u; repeat' split) <;> first | rfl | omega
        · rw [ya_u_same]; unfold sh_g; simp
      have hN : N ≤ 800 := by have := hS.1; have := hS.2.1; omega
      obtain ⟨ψ', e3, e4⟩ := r5 F [] _ x2 (by omega) (by simp; omega) w0
      have e3' : mo_shown_L37 F F 0 (qm_u (qm_u (qm_u (qm_u ψ 0 0 0) 0 48 x2) 0 49 0) 0 50 (-1)) (Int32.ofNat g) x2 0 = _ := e3
      rw [if_pos (Or.inl rfl), List.nil_append, List.nil_append] at e4
      have fin : sb_D F nR nN nT gg nI φ0 ψ0 Vf Hb rk u nK o s tn pn kp cur φ ψ' := h.v (fun a j z => by
        rw [e4.1 a j (by omega)]
        (unfold qm_u; repeat' split) <;> first | rfl | omega)
      rw [e3']
      have c17 : φ 14 17 = Int32.ofNat fs := by rw [hx.1.1 14 17 (by omega) (by omega)]; exact hS.2.2.2.1
      by_cases q : x2 = -1
      · rw [if_neg (not_not_intro q), if_pos q]
        have := r3 F 0 (by omega) (by omega)
        rw [if_pos (Or.inl rfl), Nat.add_zero, Nat.zero_add] at this
        have e5 : pr_shownBytes F nR nN nT φ (Int32.ofNat g) = some (Int32.ofNat R.length) := by
          unfold pr_shownBytes
          rw [c17]
          exact this
        rw [e5]
        exact ⟨Int32.ofNat R.length, ψ', rfl, by rw [e4.2.2.1], fin⟩
      · rw [if_pos q, if_neg q]
        have z : ¬ x2 < 0 := fun z => q (by
          have z1 := Int32.lt_iff_toInt_lt.mp z
          have z2 := Int32.le_iff_toInt_le.mp c0
          apply Int32.toInt_inj.mp
          rw [show (-1 : Int32).toInt = -1 from rfl] at *
          rw [show (0 : Int32).toInt = 0 from rfl] at *
          omega)
        obtain ⟨w, hw, rfl⟩ := ya_nat z
        have := r4 F w (by omega) hw
        have e5 : pr_shownByte F nR nN nT φ (Int32.ofNat g) (Int32.ofNat w) = some (match R[w]? with | some b => Int32.ofNat b | none => -1) := by
          unfold pr_shownByte
          rw [c17]
          exact this
        rw [e5]
        refine ⟨_, ψ', rfl, ?_, fin⟩
        rw [e4.2.2.2]
        unfold sh_g
        rw [if_neg z, ya_nn hw]
        rfl
    · rw [if_neg c0, if_neg c0]
      exact ⟨-1, _, rfl, rfl, h.th 0⟩
  · rw [e1, e2]
    simp only [yb1]
    rw [if_pos trivial, if_pos trivial]
    exact ⟨-1, _, rfl, rfl, h.th 0⟩
end S14b
