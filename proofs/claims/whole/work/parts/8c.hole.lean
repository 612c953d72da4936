/-! SEMANTICS: the hole that a token names -/
theorem ha_by8 (x : Int32) : (x &&& 255).toInt8 = x.toInt8 := by
  apply Int8.toBitVec_inj.mp
  rw [Int32.toBitVec_toInt8, Int32.toBitVec_toInt8, BitVec.signExtend_eq_setWidth_of_le _ (by omega), BitVec.signExtend_eq_setWidth_of_le _ (by omega)]
  apply BitVec.eq_of_getLsbD_eq
  intro i hi
  have : ∀ i, i < 8 → (255 : Int32).toBitVec.getLsbD i = true := by decide
  rw [BitVec.getLsbD_setWidth, BitVec.getLsbD_setWidth, Int32.toBitVec_and, BitVec.getLsbD_and, this i hi, Bool.and_true]
theorem ha_byc : ∀ a, a < 128 → qm_by (Int32.ofNat a) = Int32.ofNat a := by decide +kernel
theorem ha_by {x : Int32} {a : Nat} (h : x &&& 255 = Int32.ofNat a) (ha : a < 128) : qm_by x = Int32.ofNat a := by
  unfold qm_by
  rw [← ha_by8, h]
  exact ha_byc a ha
theorem ha_31 : ∀ a, a < 128 → 97 ≤ a → a ≤ 122 → Int32.ofNat a &&& 31 = Int32.ofNat (a - 96) := by decide +kernel
section S19
variable {F : Nat} {ψ : qm_F} {c : Nat → Nat} {Hb : List Nat}
theorem ha_L5 {e : Nat} (he : e ≤ 800) (x1 : Int32) : ∀ (k m i : Nat) (w : Int32), k + i = e → k + 1 ≤ m → ∃ w', mo_holeAt_L5 F m ψ x1 (Int32.ofNat e) w (Int32.ofNat i) = mo_holeAt_L35 F F ψ x1 w' 0 := by
  intro k
  induction k with
  | zero =>
    intro m i w h1 h2
    obtain ⟨m, rfl⟩ : ∃ z, m = z + 1 := ⟨m - 1, by omega⟩
    refine ⟨w, ?_⟩
    conv => lhs; unfold mo_holeAt_L5
    rw [if_pos (by rw [ya_le (by omega) (by omega)]; omega)]
  | succ k ih =>
    intro m i w h1 h2
    obtain ⟨m, rfl⟩ : ∃ z, m = z + 1 := ⟨m - 1, by omega⟩
    unfold mo_holeAt_L5
    rw [if_neg (by rw [ya_le (by omega) (by omega)]; omega), ya_in (by omega) (by omega), ya_nn (by omega), ya_add1]
    exact ih m (i + 1) _ (by omega) (by omega)
theorem ha_L5w {q l : Nat} (he : q + l ≤ 800) (x1 : Int32) (hl : ∀ j, j < l → zk_lt (c (q + j))) (ht : ∀ j, q ≤ j → j < q + l → ψ 11 j = Int32.ofNat (c j)) : ∀ (k m i : Nat), k + i = l → k + 1 ≤ m → mo_holeAt_L5 F m ψ x1 (Int32.ofNat (q + l)) (Int32.ofNat (zk_w 32 c q i)) (Int32.ofNat (q + i)) = mo_holeAt_L35 F F ψ x1 (Int32.ofNat (zk_w 32 c q l)) 0 := by
  intro k
  induction k with
  | zero =>
    intro m i h1 h2
    obtain ⟨m, rfl⟩ : ∃ z, m = z + 1 := ⟨m - 1, by omega⟩
    conv => lhs; unfold mo_holeAt_L5
    rw [if_pos (by rw [ya_le (by omega) (by omega)]; omega), show i = l by omega]
  | succ k ih =>
    intro m i h1 h2
    obtain ⟨m, rfl⟩ : ∃ z, m = z + 1 := ⟨m - 1, by omega⟩
    have hc := hl i (by omega)
    unfold zk_lt at hc
    conv => lhs; unfold mo_holeAt_L5
    rw [if_neg (by rw [ya_le (by omega) (by omega)]; omega), ya_in (by omega) (by omega), ya_nn (by omega), ya_add1, ht _ (by omega) (by omega), ha_31 _ (by omega) hc.1 hc.2, zm_sh _ _ (by omega)]
    exact ih m (i + 1) (by omega) (by omega)
theorem ha_nl (hF : 2000 ≤ F) {q l : Nat} (he : q + l ≤ 800) (h1 : 1 ≤ l) (ht : ψ 11 q = Int32.ofNat (c q)) (hc : c q < 128) (hn : ¬ zk_lt (c q)) : mo_holeAt F ψ (Int32.ofNat q) (Int32.ofNat (q + l)) = some (-1) := by
  unfold mo_holeAt
  obtain ⟨w', e⟩ := ha_L5 (F := F) (ψ := ψ) (e := q + l) he (Int32.ofNat q) l F q 0 (by omega) (by omega)
  rw [e]
  obtain ⟨z, hz⟩ : ∃ z, F = z + 1 := ⟨F - 1, by omega⟩
  rw [hz]
  unfold mo_holeAt_L35
  split
  · rfl
  · rw [ya_in (by omega) (by omega), ya_nn (by omega), ht]
    simp only [yg1]
    rw [show (97 : Int32) = Int32.ofNat 97 from rfl, show (122 : Int32) = Int32.ofNat 122 from rfl, yi_lt (by omega) (by omega), yi_lt (by omega) (by omega)]
    unfold zk_lt at hn
    by_cases y : c q < 97
    · rw [if_pos y]
    · rw [if_neg y, if_pos (by omega)]
theorem ha_let (hF : 2000 ≤ F) (hH : Hb.length ≤ 5) (h22 : ψ 2 2 = Int32.ofNat Hb.length) {q l : Nat} (he : q + l ≤ 800) (h1 : 1 ≤ l) (hl : ∀ j, j < l → zk_lt (c (q + j))) (ht : ∀ j, q ≤ j → j < q + l → ψ 11 j = Int32.ofNat (c j)) :
    (∀ k, k < Hb.length → ψ 3 (3 + k) = Int32.ofNat (zk_w 32 c q l) → (∀ k', k' < k → ψ 3 (3 + k') ≠ Int32.ofNat (zk_w 32 c q l)) → mo_holeAt F ψ (Int32.ofNat q) (Int32.ofNat (q + l)) = some (Int32.ofNat k)) ∧
    ((∀ k, k < Hb.length → ψ 3 (3 + k) ≠ Int32.ofNat (zk_w 32 c q l)) → mo_holeAt F ψ (Int32.ofNat q) (Int32.ofNat (q + l)) = some (-1)) := by
  have e := ha_L5w (F := F) (ψ := ψ) he (Int32.ofNat q) hl ht l F 0 (by omega) (by omega)
  have e' : mo_holeAt F ψ (Int32.ofNat q) (Int32.ofNat (q + l)) = mo_holeAt_L35 F F ψ (Int32.ofNat q) (Int32.ofNat (zk_w 32 c q l)) (Int32.ofNat 0) := e
  rw [e']
  generalize Int32.ofNat (zk_w 32 c q l) = w
  have hc := hl 0 (by omega)
  rw [Nat.add_zero] at hc
  unfold zk_lt at hc
  have st : ∀ m i, i < Hb.length → mo_holeAt_L35 F (m + 1) ψ (Int32.ofNat q) w (Int32.ofNat i) = if ¬ ψ 3 (3 + i) = w then mo_holeAt_L35 F m ψ (Int32.ofNat q) w (Int32.ofNat (i + 1)) else some (Int32.ofNat i) := by
    intro m i hi
    conv => lhs; unfold mo_holeAt_L35
    rw [h22, if_neg (by rw [ya_le (by omega) (by omega)]; omega), ya_in (k := q) (by omega) (by omega), ya_nn (k := q) (by omega), ht q (Nat.le_refl _) (by omega)]
    simp only [yg1]
    rw [show (97 : Int32) = Int32.ofNat 97 from rfl, show (122 : Int32) = Int32.ofNat 122 from rfl, yi_lt (by omega) (by omega), yi_lt (by omega) (by omega), if_neg (by omega), if_neg (by omega), show (3 : Int32) + Int32.ofNat i = Int32.ofNat (3 + i) from ya_add 3 i, ya_in (by omega) (by omega), ya_nn (by omega), ya_add1]
    rfl
  constructor
  · intro k hk h2 h3
    have : ∀ (n m i : Nat), n + i = k → n + 1 ≤ m → mo_holeAt_L35 F m ψ (Int32.ofNat q) w (Int32.ofNat i) = some (Int32.ofNat k) := by
      intro n
      induction n with
      | zero =>
        intro m i a1 a2
        obtain ⟨m, rfl⟩ : ∃ z, m = z + 1 := ⟨m - 1, by omega⟩
        obtain rfl : i = k := by omega
        rw [st m i hk, if_neg (not_not_intro h2)]
      | succ n ih =>
        intro m i a1 a2
        obtain ⟨m, rfl⟩ : ∃ z, m = z + 1 := ⟨m - 1, by omega⟩
        rw [st m i (by omega), if_pos (h3 i (by omega))]
        exact ih m (i + 1) (by omega) (by omega)
    exact this k F 0 (by omega) (by omega)
  · intro h2
    have : ∀ (n m i : Nat), n + i = Hb.length → n + 1 ≤ m → mo_holeAt_L35 F m ψ (Int32.ofNat q) w (Int32.ofNat i) = some (-1) := by
      intro n
      induction n with
      | zero =>
        intro m i a1 a2
        obtain ⟨m, rfl⟩ : ∃ z, m = z + 1 := ⟨m - 1, by omega⟩
        unfold mo_holeAt_L35
        rw [h22, if_pos (by rw [ya_le (by omega) (by omega)]; omega)]
      | succ n ih =>
        intro m i a1 a2
        obtain ⟨m, rfl⟩ : ∃ z, m = z + 1 := ⟨m - 1, by omega⟩
        rw [st m i (by omega), if_pos (h2 i (by omega))]
        exact ih m (i + 1) (by omega) (by omega)
    exact this Hb.length F 0 (by omega) (by omega)
end S19
