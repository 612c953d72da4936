/-! SEMANTICS: shown -/
def sh_g (x : Int32) (L : List Nat) : Int32 := if x < 0 then -1 else match L[x.toNatClampNeg]? with | some b => Int32.ofNat b | none => -1
/-- the reference has written L -/
def sh_W (ψb : qm_F) (x : Int32) (L : List Nat) (ψ : qm_F) : Prop := (∀ a j, ¬ (a = 0 ∧ 48 ≤ j ∧ j ≤ 50) → ψ a j = ψb a j) ∧ ψ 0 48 = x ∧ ψ 0 49 = Int32.ofNat L.length ∧ ψ 0 50 = sh_g x L
section S13
variable {F nR nN nT gg nI u : Nat} {φ0 ψ0 φ ψ ψb : qm_F} {V : Nat → Nat → Nat} {Hb : List Nat} {x : Int32} {L : List Nat} {c : Nat → Nat}
theorem sh_one (h : sh_W ψb x L ψ) (hl : L.length < 100000) (b : Nat) : ∃ ψ', mo_writes F ψ (Int32.ofNat b) = some ψ' ∧ sh_W ψb x (L ++ [b]) ψ' := by
  obtain ⟨h1, h2, h3, h4⟩ := h
  have fr : ∀ ψ', (ψ' = qm_u ψ 0 49 ((ψ 0 49) + 1) ∨ ψ' = qm_u (qm_u ψ 0 50 (Int32.ofNat b)) 0 49 ((ψ 0 49) + 1)) → (∀ a j, ¬ (a = 0 ∧ 48 ≤ j ∧ j ≤ 50) → ψ' a j = ψb a j) ∧ ψ' 0 48 = x ∧ ψ' 0 49 = Int32.ofNat (L ++ [b]).length := by
    intro ψ' e
    refine ⟨fun a j z => ?_, ?_, ?_⟩
    · rw [← h1 a j z]
      rcases e with rfl | rfl <;> (unfold qm_u; repeat' split) <;> first | rfl | omega
    · rw [← h2]
      rcases e with rfl | rfl <;> simp [qm_u]
    · rcases e with rfl | rfl <;> (rw [ya_u_same, h3, ya_add1, List.length_append]; rfl)
  unfold mo_writes
  rw [h2]
  by_cases q : ψ 0 49 = x
  · rw [if_neg (not_not_intro q)]
    obtain ⟨a1, a2, a3⟩ := fr _ (Or.inr rfl)
    refine ⟨_, rfl, a1, a2, a3, ?_⟩
    rw [show (qm_u (qm_u ψ 0 50 (Int32.ofNat b)) 0 49 (ψ 0 49 + 1)) 0 50 = Int32.ofNat b by simp [qm_u]]
    unfold sh_g
    rw [← q, h3, if_neg (ya_lt0 (by omega)), ya_nn (by omega), List.getElem?_append_right (Nat.le_refl _)]
    simp
  · rw [if_pos q]
    obtain ⟨a1, a2, a3⟩ := fr _ (Or.inl rfl)
    refine ⟨_, rfl, a1, a2, a3, ?_⟩
    rw [show (qm_u ψ 0 49 (ψ 0 49 + 1)) 0 50 = ψ 0 50 by simp [qm_u], h4]
    unfold sh_g
    by_cases z : x < 0
    · rw [if_pos z, if_pos z]
    · obtain ⟨w, hw, rfl⟩ := ya_nat z
      rw [if_neg z, if_neg z, ya_nn hw]
      have hne : w ≠ L.length := fun e => q (by rw [h3, e])
      by_cases y : w < L.length
      · rw [List.getElem?_append_left y]
      · rw [List.getElem?_eq_none (by omega), List.getElem?_eq_none (by rw [List.length_append]; simp; omega)]
theorem yt_cons : ∀ d v, yt_d (d + 1) v = (48 + v / 10 ^ d % 10) :: yt_d d v := by
  intro d
  induction d with
  | zero => intro v; simp [yt_d]
  | succ d ih =>
    intro v
    show yt_d (d + 1) (v / 10) ++ [48 + v % 10] = (48 + v / 10 ^ (d + 1) % 10) :: (yt_d d (v / 10) ++ [48 + v % 10])
    rw [ih (v / 10), Nat.div_div_eq_div_mul, show 10 * 10 ^ d = 10 ^ (d + 1) by rw [Nat.pow_succ]; omega]
    rfl
theorem sh_num18 {v : Nat} (hv : v < 2147483648) : ∀ (d m : Nat) (L : List Nat) (ψ : qm_F), d ≤ 5 → d + 2 ≤ m → sh_W ψb x L ψ → L.length + d < 90000 → ∃ ψ', mo_writesNumber_L18 F m ψ (Int32.ofNat v) (Int32.ofNat (10 ^ d)) = some ψ' ∧ sh_W ψb x (L ++ yt_d (d + 1) v) ψ' := by
  intro d
  induction d with
  | zero =>
    intro m L ψ _ h1 h2 h3
    obtain ⟨m, rfl⟩ : ∃ z, m = z + 2 := ⟨m - 2, by omega⟩
    obtain ⟨ψ1, e1, e2⟩ := sh_one (F := F) h2 (by omega) (48 + v % 10)
    refine ⟨ψ1, ?_, e2⟩
    unfold mo_writesNumber_L18
    rw [if_neg (by decide), show (!decide (Int32.ofNat (10 ^ 0) = 0)) = true by decide, yt_div hv (by decide), yt_mod10 (by omega), show v / 10 ^ 0 = v by simp, e1]
    simp only [yg1, yb1]
    unfold mo_writesNumber_L18
    rw [if_pos (by decide)]
  | succ d ih =>
    intro m L ψ hd h1 h2 h3
    obtain ⟨m, rfl⟩ : ∃ z, m = z + 1 := ⟨m - 1, by omega⟩
    have hp : 10 ^ (d + 1) ≤ 10 ^ 5 := Nat.pow_le_pow_right (by omega) hd
    have hp1 : 1 ≤ 10 ^ (d + 1) := Nat.one_le_pow _ _ (by omega)
    have hp2 : 10 ^ (d + 1) / 10 = 10 ^ d := by rw [Nat.pow_succ, Nat.mul_div_cancel _ (by omega)]
    rw [show (10 : Nat) ^ 5 = 100000 from rfl] at hp
    have hq : v / 10 ^ (d + 1) < 2147483648 := Nat.lt_of_le_of_lt (Nat.div_le_self _ _) hv
    obtain ⟨ψ1, e1, e2⟩ := sh_one (F := F) h2 (by omega) (48 + v / 10 ^ (d + 1) % 10)
    obtain ⟨ψ2, e3, e4⟩ := ih m _ ψ1 (by omega) (by omega) e2 (by rw [List.length_append, List.length_singleton]; omega)
    refine ⟨ψ2, ?_, ?_⟩
    · unfold mo_writesNumber_L18
      have ne : ¬ (Int32.ofNat (10 ^ (d + 1)) ≤ 0) := by rw [show (0 : Int32) = Int32.ofNat 0 from rfl, ya_le (by omega) (by omega)]; omega
      have ne2 : ¬ (Int32.ofNat (10 ^ (d + 1)) = 0) := by rw [show (0 : Int32) = Int32.ofNat 0 from rfl, ya_eq (by omega) (by omega)]; omega
      rw [if_neg ne, decide_eq_false ne2, yt_div hv (by omega), yt_mod10 hq, e1, show (10 : Int32) = Int32.ofNat 10 from rfl, yt_div (by omega) (by omega), hp2]
      exact e3
    · rw [yt_cons (d + 1) v]
      rw [List.append_assoc] at e4
      exact e4
theorem sh_num (hF : 200000 ≤ F) {v : Nat} (hv : v < 128) (h : sh_W ψb x L ψ) (hl : L.length < 80000) : ∃ ψ', mo_writesNumber F ψ (Int32.ofNat v) = some ψ' ∧ sh_W ψb x (L ++ yt_d (yt_n v) v) ψ' := by
  have stp : ∀ m d, d ≤ 2 → mo_writesNumber_L2 F (m + 1) ψ (Int32.ofNat v) (Int32.ofNat (10 ^ d)) = if v / 10 ^ d ≤ 9 then mo_writesNumber_L18 F F ψ (Int32.ofNat v) (Int32.ofNat (10 ^ d)) else mo_writesNumber_L2 F m ψ (Int32.ofNat v) (Int32.ofNat (10 ^ (d + 1))) := by
    intro m d hd
    conv => lhs; unfold mo_writesNumber_L2
    have hp : 10 ^ d ≤ 10 ^ 2 := Nat.pow_le_pow_right (by omega) hd
    have hp1 : 1 ≤ 10 ^ d := Nat.one_le_pow _ _ (by omega)
    rw [show (10 : Nat) ^ 2 = 100 from rfl] at hp
    have ne2 : ¬ (Int32.ofNat (10 ^ d) = 0) := by rw [show (0 : Int32) = Int32.ofNat 0 from rfl, ya_eq (by omega) (by omega)]; omega
    have hq : v / 10 ^ d < 2147483648 := Nat.lt_of_le_of_lt (Nat.div_le_self _ _) (by omega)
    rw [decide_eq_false ne2, yt_div (by omega) (by omega), show (10 : Int32) = Int32.ofNat 10 from rfl, ya_mul, show 10 ^ d * 10 = 10 ^ (d + 1) by rw [Nat.pow_succ]]
    show (if Int32.ofNat (v / 10 ^ d) ≤ Int32.ofNat 9 then _ else _) = _
    rw [yi_le hq (by omega)]
  obtain ⟨z, hz⟩ : ∃ z, F = z + 3 := ⟨F - 3, by omega⟩
  unfold mo_writesNumber yt_n
  rw [show mo_writesNumber_L2 F F ψ (Int32.ofNat v) 1 = mo_writesNumber_L2 F (z + 3) ψ (Int32.ofNat v) (Int32.ofNat (10 ^ 0)) by rw [← hz]; rfl, stp (z + 2) 0 (by omega)]
  by_cases q1 : v < 10
  · rw [if_pos (by simp; omega), if_pos q1]
    exact sh_num18 (by omega) 0 F L ψ (by omega) (by omega) h (by omega)
  · rw [if_neg (by simp; omega), if_neg q1, stp (z + 1) (0 + 1) (by omega)]
    by_cases q2 : v < 100
    · rw [if_pos (by simp; omega), if_pos q2]
      exact sh_num18 (by omega) 1 F L ψ (by omega) (by omega) h (by omega)
    · rw [if_neg (by simp; omega), if_neg q2, if_pos (by omega), stp z (0 + 1 + 1) (by omega), if_pos (by simp; omega)]
      exact sh_num18 (by omega) 2 F L ψ (by omega) (by omega) h (by omega)
theorem sh_81 {e : Nat} (he : e ≤ 800) : ∀ (k m i : Nat) (L : List Nat) (ψ : qm_F), k + i = e → k + 1 ≤ m → sh_W ψb x L ψ → L.length + k < 90000 → (∀ j, i ≤ j → j < e → ψb 11 j = Int32.ofNat (c j)) → ∃ ψ', mo_writesToken_L81 F m ψ (Int32.ofNat e) (Int32.ofNat i) = some ψ' ∧ sh_W ψb x (L ++ (List.range k).map (fun j => c (i + j))) ψ' := by
  intro k
  induction k with
  | zero =>
    intro m i L ψ h1 h2 h3 h4 h5
    obtain ⟨m, rfl⟩ : ∃ z, m = z + 1 := ⟨m - 1, by omega⟩
    refine ⟨ψ, ?_, by simpa using h3⟩
    unfold mo_writesToken_L81
    rw [if_pos (by rw [ya_le (by omega) (by omega)]; omega)]
  | succ k ih =>
    intro m i L ψ h1 h2 h3 h4 h5
    obtain ⟨m, rfl⟩ : ∃ z, m = z + 1 := ⟨m - 1, by omega⟩
    obtain ⟨ψ1, e1, e2⟩ := sh_one (F := F) h3 (by omega) (c i)
    obtain ⟨ψ2, e3, e4⟩ := ih m (i + 1) _ ψ1 (by omega) (by omega) e2 (by rw [List.length_append, List.length_singleton]; omega) (fun j a b => h5 j (by omega) b)
    refine ⟨ψ2, ?_, ?_⟩
    · unfold mo_writesToken_L81
      rw [if_neg (by rw [ya_le (by omega) (by omega)]; omega), ya_in (by omega) (by omega), ya_nn (by omega), h3.1 11 i (by omega), h5 i (Nat.le_refl _) (by omega), e1, ya_add1]
      exact e3
    · rw [List.append_assoc] at e4
      rw [List.range_succ_eq_map, List.map_cons, List.map_map, Nat.add_zero]
      have : ((fun j => c (i + j)) ∘ Nat.succ) = (fun j => c (i + 1 + j)) := by
        funext j
        show c (i + (j + 1)) = _
        congr 1; omega
      rw [this]
      exact e4
theorem sh_dig (ψ : qm_F) {a : Nat} (h : a < 128) : mo_isDigit F ψ (Int32.ofNat a) = some (if 48 ≤ a ∧ a ≤ 57 then 1 else 0) := by
  unfold mo_isDigit
  rw [show (48 : Int32) = Int32.ofNat 48 from rfl, show (57 : Int32) = Int32.ofNat 57 from rfl]
  by_cases q : a < 48
  · rw [if_pos ((ya_lt (by omega) (by omega)).mpr q), if_neg (by omega)]
  · rw [if_neg (fun z => q ((ya_lt (by omega) (by omega)).mp z))]
    by_cases q2 : 57 < a
    · rw [if_pos ((ya_lt (by omega) (by omega)).mpr q2), if_neg (by omega)]
    · rw [if_neg (fun z => q2 ((ya_lt (by omega) (by omega)).mp z)), if_pos (by omega)]
theorem sh_41 (hF : 200000 ≤ F) {e : Nat} (he : e ≤ 800) : ∀ (l m q : Nat) (L : List Nat) (ψ : qm_F), l + q = e → l + 1 ≤ m → 1 ≤ l → l ≤ 5 → sh_W ψb x L ψ → L.length < 80000 → (∀ j, q ≤ j → j < e → ψb 11 j = Int32.ofNat (c j)) → (∀ j, j < l → zk_dg (c (q + j))) → ∃ ψ', mo_writesToken_L41 F m ψ (Int32.ofNat q) (Int32.ofNat e) = some ψ' ∧ sh_W ψb x (L ++ yt_d (yt_n (zk_v c q l)) (zk_v c q l)) ψ' := by
  intro l
  induction l with
  | zero => intro m q L ψ _ _ h; omega
  | succ l ih =>
    intro m q L ψ h1 h2 h3 h4 h5 h6 h7 h8
    obtain ⟨m, rfl⟩ : ∃ z, m = z + 1 := ⟨m - 1, by omega⟩
    have d0 := h8 0 (by omega)
    rw [Nat.add_zero] at d0
    have d0' := d0
    unfold zk_dg at d0'
    have st : mo_writesToken_L41 F (m + 1) ψ (Int32.ofNat q) (Int32.ofNat e) = if l = 0 ∨ c q ≠ 48 then mo_writesToken_L81 F F ψ (Int32.ofNat e) (Int32.ofNat q) else mo_writesToken_L41 F m ψ (Int32.ofNat (q + 1)) (Int32.ofNat e) := by
      conv => lhs; unfold mo_writesToken_L41
      rw [ya_in (by omega) (by omega), ya_nn (by omega), h5.1 11 q (by omega), h7 q (Nat.le_refl _) (by omega), sh_dig ψ (by omega), if_pos (c := 48 ≤ c q ∧ c q ≤ 57) (by omega), ya_add1]
      simp only [yg1, yb1]
      have cq : (Int32.ofNat (c q) = 48) ↔ c q = 48 := ya_eq (b := 48) (by omega) (by omega)
      rw [if_neg (by decide), yi_le (by omega) (by omega)]
      by_cases z : l = 0
      · rw [if_pos (by omega), if_pos (Or.inl z)]
      · rw [if_neg (by omega)]
        by_cases y : c q = 48
        · rw [if_neg (not_not_intro (cq.mpr y)), if_neg (by simp [y, z])]
        · rw [if_pos (fun w => y (cq.mp w)), if_pos (Or.inr y)]
    rw [st]
    by_cases z : l = 0 ∨ c q ≠ 48
    · rw [if_pos z]
      obtain ⟨ψ', e1, e2⟩ := sh_81 (F := F) (ψb := ψb) (x := x) (c := c) he (l + 1) F q L ψ h1 (by omega) h5 (by omega) h7
      refine ⟨ψ', e1, ?_⟩
      have hn : yt_n (zk_v c q (l + 1)) = l + 1 := yt_nl (by
        rcases z with z | z
        · exact Or.inr z
        · exact Or.inl (yt_ge z l h8)) (yt_lt _ h8) h4
      rw [hn, yt_text _ h8]
      exact e2
    · rw [if_neg z]
      have z1 : l ≠ 0 := fun y => z (Or.inl y)
      have z2 : c q = 48 := by
        by_cases y : c q = 48
        · exact y
        · exact absurd (Or.inr y) z
      rw [yt_zero z2 l]
      exact ih m (q + 1) L ψ (by omega) (by omega) (by omega) (by omega) h5 h6 (fun j a b => h7 j (by omega) b) (fun j hj => by rw [show q + 1 + j = q + (j + 1) by omega]; exact h8 (j + 1) (by omega))
end S13
