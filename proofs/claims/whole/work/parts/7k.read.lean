/-! SEMANTICS: tokens, the component's reading -/
def zk_nm (c : Nat → Nat) (q l : Nat) (k : Int32) : Int32 := if k = 48 then Int32.ofNat (zk_v c q l) else if k = 97 then Int32.ofNat (zk_w 27 c q l) else 0
theorem yi_le {α : Type} {a b : Nat} (ha : a < 2147483648) (hb : b < 2147483648) (x y : α) : (if Int32.ofNat a ≤ Int32.ofNat b then x else y) = (if a ≤ b then x else y) := by
  by_cases q : a ≤ b
  · rw [if_pos q, if_pos ((ya_le ha hb).mpr q)]
  · rw [if_neg q, if_neg (fun z => q ((ya_le ha hb).mp z))]
theorem yi_lt {α : Type} {a b : Nat} (ha : a < 2147483648) (hb : b < 2147483648) (x y : α) : (if Int32.ofNat a < Int32.ofNat b then x else y) = (if a < b then x else y) := by
  by_cases q : a < b
  · rw [if_pos q, if_pos ((ya_lt ha hb).mpr q)]
  · rw [if_neg q, if_neg (fun z => q ((ya_lt ha hb).mp z))]
theorem yi_eq {α : Type} {a b : Nat} (ha : a < 2147483648) (hb : b < 2147483648) (x y : α) : (if Int32.ofNat a = Int32.ofNat b then x else y) = (if a = b then x else y) := by
  by_cases q : a = b
  · rw [if_pos q, if_pos ((ya_eq ha hb).mpr q)]
  · rw [if_neg q, if_neg (fun z => q ((ya_eq ha hb).mp z))]
section Z1
variable {F nR n : Nat} {c : Nat → Nat} {φ : qm_F}
theorem zx_lt (x : Nat) (hx : x < 256) : to_isLetter F nR n φ (Int32.ofNat x) = some (if 97 ≤ x ∧ x ≤ 122 then 1 else 0) := by
  unfold to_isLetter
  have e1 : (97 : Int32) = Int32.ofNat 97 := rfl
  have e2 : (122 : Int32) = Int32.ofNat 122 := rfl
  rw [e1, e2, yi_lt (by omega) (by omega), yi_lt (by omega) (by omega)]
  by_cases q : 97 ≤ x ∧ x ≤ 122
  · rw [if_neg (by omega), if_neg (by omega), if_pos q]
  · rw [if_neg q]
    split
    · rfl
    · rw [if_pos (by omega)]
theorem zx_dg (x : Nat) (hx : x < 256) : to_isDigit F nR n φ (Int32.ofNat x) = some (if 48 ≤ x ∧ x ≤ 57 then 1 else 0) := by
  unfold to_isDigit
  have e1 : (48 : Int32) = Int32.ofNat 48 := rfl
  have e2 : (57 : Int32) = Int32.ofNat 57 := rfl
  rw [e1, e2, yi_lt (by omega) (by omega), yi_lt (by omega) (by omega)]
  by_cases q : 48 ≤ x ∧ x ≤ 57
  · rw [if_neg (by omega), if_neg (by omega), if_pos q]
  · rw [if_neg q]
    split
    · rfl
    · rw [if_pos (by omega)]
theorem zx_n (hn : n ≤ 800) : decide (n < 2147483648) = true := decide_eq_true (by omega)
theorem zx_letters (hn : n ≤ 800) (hc : ∀ j, j < n → φ 5 j = Int32.ofNat (c j) ∧ c j < 256) (q : Nat) : ∀ (m p : Nat), n + 1 ≤ m + p → q ≤ p → p ≤ n → ∃ l, to_bytesTogether_L14 F nR n m φ (Int32.ofNat q) (Int32.ofNat p) = some (Int32.ofNat l) ∧ p ≤ q + l ∧ q + l ≤ n ∧ (∀ j, p ≤ q + j → j < l → zk_lt (c (q + j))) ∧ (q + l < n → ¬ zk_lt (c (q + l))) := by
  intro m
  induction m with
  | zero => intro p h1 h2 h3; omega
  | succ m ih =>
    intro p h1 h2 h3
    unfold to_bytesTogether_L14
    rw [zx_n hn, yi_le (by omega) (by omega)]
    simp only [yg1]
    by_cases z : n ≤ p
    · rw [if_pos z, ya_sub h2]
      exact ⟨p - q, rfl, by omega, by omega, fun j h4 h5 => by omega, fun h => by omega⟩
    · rw [if_neg z, ya_in (by omega) (by omega), ya_nn (by omega), (hc p (by omega)).1, zx_lt _ (hc p (by omega)).2]
      simp only [yg1, yb1]
      by_cases y : 97 ≤ c p ∧ c p ≤ 122
      · rw [if_pos y, if_neg (by decide), ya_add1]
        obtain ⟨l, e, l1, l2, l3, l4⟩ := ih (p + 1) (by omega) (by omega) (by omega)
        refine ⟨l, e, by omega, l2, fun j h4 h5 => ?_, l4⟩
        by_cases w : q + j = p
        · rw [w]; exact y
        · exact l3 j (by omega) h5
      · rw [if_neg y, if_pos (by first | trivial | decide), ya_sub h2]
        exact ⟨p - q, rfl, by omega, by omega, fun j h4 h5 => by omega, fun h => by rw [show q + (p - q) = p by omega]; exact y⟩
theorem zx_digits (hn : n ≤ 800) (hc : ∀ j, j < n → φ 5 j = Int32.ofNat (c j) ∧ c j < 256) (q : Nat) : ∀ (m p : Nat), n + 1 ≤ m + p → q ≤ p → p ≤ n → ∃ l, to_bytesTogether_L45 F nR n m φ (Int32.ofNat q) (Int32.ofNat p) = some (Int32.ofNat (if l = 0 then 1 else l)) ∧ p ≤ q + l ∧ q + l ≤ n ∧ (∀ j, p ≤ q + j → j < l → zk_dg (c (q + j))) ∧ (q + l < n → ¬ zk_dg (c (q + l))) := by
  intro m
  have key : ∀ p, q ≤ p → p ≤ n → to_bytesTogether_L72 F nR n φ (Int32.ofNat q) (Int32.ofNat p) = some (Int32.ofNat (if p - q = 0 then 1 else p - q)) := by
    intro p h1 h2
    unfold to_bytesTogether_L72
    rw [ya_sub h1]
    by_cases z : p = q
    · rw [if_neg (by simp [z]), if_pos (by omega)]; rfl
    · rw [if_pos (by rw [ya_eq (by omega) (by omega)]; exact z), if_neg (by omega)]
  induction m with
  | zero => intro p h1 h2 h3; omega
  | succ m ih =>
    intro p h1 h2 h3
    unfold to_bytesTogether_L45
    rw [zx_n hn, yi_le (by omega) (by omega), key p h2 h3]
    simp only [yg1]
    by_cases z : n ≤ p
    · rw [if_pos z]
      exact ⟨p - q, rfl, by omega, by omega, fun j h4 h5 => by omega, fun h => by omega⟩
    · rw [if_neg z, ya_in (by omega) (by omega), ya_nn (by omega), (hc p (by omega)).1, zx_dg _ (hc p (by omega)).2]
      simp only [yg1, yb1]
      by_cases y : 48 ≤ c p ∧ c p ≤ 57
      · rw [if_pos y, if_neg (by decide), ya_add1]
        obtain ⟨l, e, l1, l2, l3, l4⟩ := ih (p + 1) (by omega) (by omega) (by omega)
        refine ⟨l, e, by omega, l2, fun j h4 h5 => ?_, l4⟩
        by_cases w : q + j = p
        · rw [w]; exact y
        · exact l3 j (by omega) h5
      · rw [if_neg y, if_pos (by first | trivial | decide)]
        exact ⟨p - q, rfl, by omega, by omega, fun j h4 h5 => by omega, fun h => by rw [show q + (p - q) = p by omega]; exact y⟩
/-- own words -/
theorem zx_kw (hn : n ≤ 800) (hc : ∀ j, j < n → φ 5 j = Int32.ofNat (c j) ∧ c j < 256) {q l k : Nat} (hk : k < 13) (hl : q + l ≤ n) : ∀ (m j : Nat), 20 ≤ m + 3 * j → j ≤ 6 → (∀ i, i < j → (if i < l then c (q + i) else 32) = zk_kw.getD (6 * k + i) 0) → (zk_is c q l k ∧ to_isKeyword_L3 F nR n m 0 φ (Int32.ofNat q) (Int32.ofNat l) (Int32.ofNat (6 * k)) (Int32.ofNat j) 0 = some 1) ∨ (¬ zk_is c q l k ∧ to_isKeyword_L3 F nR n m 0 φ (Int32.ofNat q) (Int32.ofNat l) (Int32.ofNat (6 * k)) (Int32.ofNat j) 0 = some 0) := by
  intro m
  induction m using Nat.strongRecOn with
  | _ m ih =>
    intro j h1 h2 h3
    by_cases z : 6 ≤ j
    · obtain ⟨m, rfl⟩ : ∃ z, m = z + 1 := ⟨m - 1, by omega⟩
      refine Or.inl ⟨fun i hi => h3 i (by omega), ?_⟩
      unfold to_isKeyword_L3
      rw [if_pos rfl, show (6 : Int32) = Int32.ofNat 6 from rfl, yi_le (by omega) (by omega), if_pos z]
    · obtain ⟨m, rfl⟩ : ∃ z, m = z + 3 := ⟨m - 3, by omega⟩
      have hkl : 6 * k + j < 78 := by omega
      have hb : zk_kw.getD (6 * k + j) 0 < 256 := by
        have : ∀ i, i < 78 → zk_kw.getD i 0 < 256 := by decide +kernel
        exact this _ hkl
      have tag2 : ∀ (m' : Nat) (s : Nat), s < 256 → to_isKeyword_L3 F nR n (m' + 1) 2 φ (Int32.ofNat q) (Int32.ofNat l) (Int32.ofNat (6 * k)) (Int32.ofNat j) (Int32.ofNat s) = (if s = zk_kw.getD (6 * k + j) 0 then to_isKeyword_L3 F nR n m' 0 φ (Int32.ofNat q) (Int32.ofNat l) (Int32.ofNat (6 * k)) (Int32.ofNat (j + 1)) 0 else some 0) := by
        intro m' s hs
        conv => lhs; unfold to_isKeyword_L3
        rw [if_neg (by omega), if_neg (by omega), ya_add]
        unfold qlet
        dsimp only
        rw [show (78 : Int32) = Int32.ofNat 78 from rfl, yi_le (by omega) (by omega), if_neg (by omega)]
        have hq : (qm_str 1000000) = zk_kw := by unfold qm_str zk_kw; rfl
        rw [hq, show zk_kw.length = 78 from rfl, ya_in (by omega) (by omega), ya_nn (by omega), ya_add1]
        simp only [yg1]
        rw [yi_eq (by omega) (by omega)]
      obtain ⟨s, m', hs, hs2, hm1, hm2, e⟩ : ∃ s m', s = (if j < l then c (q + j) else 32) ∧ s < 256 ∧ m' < m + 3 ∧ m ≤ m' ∧ to_isKeyword_L3 F nR n (m + 3) 0 φ (Int32.ofNat q) (Int32.ofNat l) (Int32.ofNat (6 * k)) (Int32.ofNat j) 0 = to_isKeyword_L3 F nR n (m' + 1) 2 φ (Int32.ofNat q) (Int32.ofNat l) (Int32.ofNat (6 * k)) (Int32.ofNat j) (Int32.ofNat s) := by
        have e0 : to_isKeyword_L3 F nR n (m + 3) 0 φ (Int32.ofNat q) (Int32.ofNat l) (Int32.ofNat (6 * k)) (Int32.ofNat j) 0 = if l ≤ j then to_isKeyword_L3 F nR n (m + 2) 1 φ (Int32.ofNat q) (Int32.ofNat l) (Int32.ofNat (6 * k)) (Int32.ofNat j) 0 else to_isKeyword_L3 F nR n (m + 2) 2 φ (Int32.ofNat q) (Int32.ofNat l) (Int32.ofNat (6 * k)) (Int32.ofNat j) (φ 5 (q + j)) := by
          conv => lhs; unfold to_isKeyword_L3
          rw [if_pos rfl, show (6 : Int32) = Int32.ofNat 6 from rfl, yi_le (by omega) (by omega), if_neg z, yi_le (by omega) (by omega), ya_add]
          by_cases y : l ≤ j
          · rw [if_pos y, if_pos y]
          · rw [if_neg y, if_neg y, zx_n hn, yi_le (by omega) (by omega), if_neg (by omega), ya_in (by omega) (by omega), ya_nn (by omega)]
            rfl
        by_cases y : l ≤ j
        · refine ⟨32, m, by rw [if_neg (by omega)], by omega, by omega, Nat.le_refl _, ?_⟩
          rw [e0, if_pos y]
          conv => lhs; unfold to_isKeyword_L3
          rw [if_neg (by omega), if_pos rfl]
          rfl
        · have := hc (q + j) (by omega)
          refine ⟨c (q + j), m + 1, by rw [if_pos (by omega)], this.2, by omega, by omega, ?_⟩
          rw [e0, if_neg y, this.1]
      rw [e, tag2 m' s hs2]
      by_cases w : s = zk_kw.getD (6 * k + j) 0
      · rw [if_pos w]
        refine ih m' (by omega) (j + 1) (by omega) (by omega) (fun i hi => ?_)
        by_cases x : i = j
        · subst x; rw [← hs, w]
        · exact h3 i (by omega)
      · rw [if_neg w]
        refine Or.inr ⟨fun hi => w ?_, rfl⟩
        rw [hs]
        exact hi j (by omega)
theorem zx_word (hF : 4000 ≤ F) (hn : n ≤ 800) (hc : ∀ j, j < n → φ 5 j = Int32.ofNat (c j) ∧ c j < 256) {q l : Nat} (hl : q + l ≤ n) : ∀ (m k : Nat), 15 ≤ m + k → k ≤ 13 → (∀ i, i < k → ¬ zk_is c q l i) → ∃ kd, to_wordAt_L12 F nR n m φ (Int32.ofNat q) (Int32.ofNat l) 13 (Int32.ofNat k) = some kd ∧ zk_wk c q l kd := by
  intro m
  induction m with
  | zero => intro k h1 h2; omega
  | succ m ih =>
    intro k h1 h2 h3
    unfold to_wordAt_L12
    rw [show (13 : Int32) = Int32.ofNat 13 from rfl, yi_le (by omega) (by omega)]
    by_cases z : 13 ≤ k
    · rw [if_pos z]
      exact ⟨97, rfl, Or.inr ⟨fun i hi => h3 i (by omega), rfl⟩⟩
    · rw [if_neg z, show Int32.ofNat k * 6 = Int32.ofNat (6 * k) from by rw [Nat.mul_comm]; exact ya_mul k 6]
      unfold to_isKeyword
      rcases zx_kw (F := F) (nR := nR) hn hc (k := k) (by omega) hl F 0 (by omega) (by omega) (fun i hi => by omega) with ⟨hi, e⟩ | ⟨hi, e⟩
      · rw [show to_isKeyword_L3 F nR n F 0 φ (Int32.ofNat q) (Int32.ofNat l) (Int32.ofNat (6 * k)) 0 0 = _ from e]
        simp only [yb1]
        rw [if_neg (by decide), show (128 : Int32) + Int32.ofNat k = Int32.ofNat (128 + k) from ya_add 128 k]
        exact ⟨_, rfl, Or.inl ⟨k, by omega, hi, h3, rfl⟩⟩
      · rw [show to_isKeyword_L3 F nR n F 0 φ (Int32.ofNat q) (Int32.ofNat l) (Int32.ofNat (6 * k)) 0 0 = _ from e]
        simp only [yb1]
        rw [if_pos (by first | trivial | decide), ya_add1]
        exact ih (k + 1) (by omega) (by omega) (fun i hi' => by
          by_cases w : i = k
          · subst w; exact hi
          · exact h3 i (by omega))
theorem zx_nums (hn : n ≤ 800) (hc : ∀ j, j < n → φ 5 j = Int32.ofNat (c j) ∧ c j < 256) {q l : Nat} (hl : q + l ≤ n) (B z : Nat) (hz : ∀ j, j < l → z ≤ c (q + j)) (f : Nat → Nat) (hf0 : f 0 = 0) (hf : ∀ j, f (j + 1) = f j * B + (c (q + j) - z)) : ∀ (m i : Nat), l + 1 ≤ m + i → i ≤ l → to_numberAt_L50 F nR n m φ (Int32.ofNat q) (Int32.ofNat l) (Int32.ofNat B) (Int32.ofNat z) (Int32.ofNat (f i)) (Int32.ofNat (q + i)) = some (Int32.ofNat (f l)) := by
  intro m
  induction m with
  | zero => intro i h1 h2; omega
  | succ m ih =>
    intro i h1 h2
    unfold to_numberAt_L50
    rw [ya_add, yi_le (by omega) (by omega)]
    by_cases w : i = l
    · subst w; rw [if_pos (by omega)]
    · rw [if_neg (by omega), zx_n hn, yi_le (by omega) (by omega), if_neg (by omega), ya_in (by omega) (by omega), ya_nn (by omega), (hc (q + i) (by omega)).1, ya_mul, ya_sub (hz i (by omega)), ya_add, ya_add1, ← hf i]
      exact ih (i + 1) (by omega) (by omega)
theorem zx_number (hF : 4000 ≤ F) (hn : n ≤ 800) (hc : ∀ j, j < n → φ 5 j = Int32.ofNat (c j) ∧ c j < 256) {q l : Nat} {k : Int32} (hl : q + l ≤ n) (hd : k = 48 → ∀ j, j < l → zk_dg (c (q + j))) (hw : k = 97 → ∀ j, j < l → zk_lt (c (q + j))) : to_numberAt F nR n φ k (Int32.ofNat q) (Int32.ofNat l) = some (zk_nm c q l k) := by
  unfold to_numberAt to_numberAt_L14 to_numberAt_L27 zk_nm
  by_cases q1 : k = 48
  · rw [if_pos q1, if_neg (by simp [q1]), if_neg (by simp [q1]), if_pos q1]
    exact zx_nums hn hc hl 10 48 (fun j hj => (hd q1 j hj).1) (zk_v c q) rfl (fun j => rfl) F 0 (by omega) (by omega)
  · rw [if_neg q1, if_neg q1]
    by_cases q2 : k = 97
    · rw [if_pos q2, if_pos q1, if_pos q1, if_pos q2]
      exact zx_nums hn hc hl 27 96 (fun j hj => by have := (hw q2 j hj).1; omega) (zk_w 27 c q) rfl (fun j => rfl) F 0 (by omega) (by omega)
    · rw [if_neg q2, if_neg q2]
theorem zx_sign : ∀ x, x < 256 → (Int32.toUInt32 (Int32.ofNat x) % 65536).toInt32 = Int32.ofNat x ∧ ((qm_ixF (Int32.ofNat x) (qm_str 1000002) 0 < 0) ↔ ¬ zk_sg x) := by
  unfold zk_sg
  decide +kernel
/-- the token at a byte that is no blank -/
theorem zx_one (hF : 4000 ≤ F) (hn : n ≤ 800) (hc : ∀ j, j < n → φ 5 j = Int32.ofNat (c j) ∧ c j < 256) {e q : Nat} (hq : q < n) (he : e ≤ q) (hbl : ∀ j, e ≤ j → j < q → zk_bl (c j)) (hnb : ¬ zk_bl (c q)) : ∃ l k, to_bytesTogether F nR n φ (Int32.ofNat q) = some (Int32.ofNat l) ∧ to_kindAt F nR n φ (Int32.ofNat q) (Int32.ofNat l) = some k ∧ zk_tok c n e q l k ∧ 1 ≤ l ∧ q + l ≤ n ∧ (k = 48 → ∀ j, j < l → zk_dg (c (q + j))) ∧ (k = 97 → ∀ j, j < l → zk_lt (c (q + j))) ∧ k ≠ 0 := by
  have hcq := hc q hq
  have e5 : (5 : Int32) = Int32.ofNat 5 := rfl
  have e6 : (6 : Int32) = Int32.ofNat 6 := rfl
  unfold to_bytesTogether to_kindAt
  rw [ya_in (by omega) hq, ya_nn (by omega), hcq.1, zx_lt _ hcq.2, zx_dg _ hcq.2]
  simp only [yg1, yb1]
  by_cases ql : 97 ≤ c q ∧ c q ≤ 122
  · rw [if_pos ql, if_neg (by decide)]
    obtain ⟨l, x1, l1, l2, l3, l4⟩ := zx_letters (F := F) (nR := nR) hn hc q F q (by omega) (Nat.le_refl _) (by omega)
    have hl0 : 1 ≤ l := by
      by_cases z : l = 0
      · subst z
        exact absurd ql (l4 (by omega))
      · omega
    have hlt : ∀ j, j < l → zk_lt (c (q + j)) := fun j hj => l3 j (by omega) hj
    by_cases q6 : l ≤ 6
    · obtain ⟨kd, x2, hk⟩ := zx_word (F := F) (nR := nR) hF hn hc l2 F 0 (by omega) (by omega) (fun i hi => by omega)
      have x3 : to_wordAt F nR n φ (Int32.ofNat q) (Int32.ofNat l) = some kd := by
        unfold to_wordAt qlet
        dsimp only
        rw [show (78 : Int32) / 6 = 13 by decide]
        exact x2
      refine ⟨l, kd, x1, ?_, ⟨he, by omega, hbl, Or.inr (Or.inl ⟨hq, ql, hl0, l2, hlt, l4, Or.inl ⟨q6, hk⟩⟩)⟩, hl0, l2, ?_, fun _ => hlt, ?_⟩
      · rw [if_neg (by decide), e6, yi_le (by omega) (by omega), if_pos q6, x3]
        rfl
      · intro z
        rcases hk with ⟨j, hj, _, _, ek⟩ | ⟨_, ek⟩
        · rw [z, show (48 : Int32) = Int32.ofNat 48 from rfl, ya_eq (by omega) (by omega)] at ek
          omega
        · rw [z] at ek; exact absurd ek (by decide)
      · intro z
        rcases hk with ⟨j, hj, _, _, ek⟩ | ⟨_, ek⟩
        · rw [z, show (0 : Int32) = Int32.ofNat 0 from rfl, ya_eq (by omega) (by omega)] at ek
          omega
        · rw [z] at ek; exact absurd ek (by decide)
    · refine ⟨l, 1, x1, ?_, ⟨he, by omega, hbl, Or.inr (Or.inl ⟨hq, ql, hl0, l2, hlt, l4, Or.inr ⟨by omega, rfl⟩⟩)⟩, hl0, l2, fun z => absurd z (by decide), fun z => absurd z (by decide), by decide⟩
      rw [if_neg (by decide), e6, yi_le (by omega) (by omega), if_neg q6]
  · rw [if_neg ql, if_pos (by first | trivial | decide)]
    obtain ⟨l, x1, l1, l2, l3, l4⟩ := zx_digits (F := F) (nR := nR) hn hc q F q (by omega) (Nat.le_refl _) (by omega)
    by_cases qd : 48 ≤ c q ∧ c q ≤ 57
    · have hl0 : 1 ≤ l := by
        by_cases z : l = 0
        · subst z
          exact absurd qd (l4 (by omega))
        · omega
      rw [if_neg (by omega)] at x1
      have hdg : ∀ j, j < l → zk_dg (c (q + j)) := fun j hj => l3 j (by omega) hj
      by_cases q5 : l ≤ 5
      · refine ⟨l, 48, x1, ?_, ⟨he, by omega, hbl, Or.inr (Or.inr (Or.inl ⟨hq, qd, hl0, l2, hdg, l4, Or.inl ⟨q5, rfl⟩⟩))⟩, hl0, l2, fun _ => hdg, fun z => absurd z (by decide), by decide⟩
        rw [if_pos (by first | trivial | decide), if_pos qd, if_neg (by decide), e5, yi_le (by omega) (by omega), if_pos q5]
      · refine ⟨l, 1, x1, ?_, ⟨he, by omega, hbl, Or.inr (Or.inr (Or.inl ⟨hq, qd, hl0, l2, hdg, l4, Or.inr ⟨by omega, rfl⟩⟩))⟩, hl0, l2, fun z => absurd z (by decide), fun z => absurd z (by decide), by decide⟩
        rw [if_pos (by first | trivial | decide), if_pos qd, if_neg (by decide), e5, yi_le (by omega) (by omega), if_neg q5]
    · have hl0 : l = 0 := by
        by_cases z : l = 0
        · exact z
        · exact absurd (l3 0 (by omega) (by omega)) qd
      rw [if_pos hl0] at x1
      obtain ⟨s1, s2⟩ := zx_sign (c q) hcq.2
      by_cases qs : zk_sg (c q)
      · refine ⟨1, Int32.ofNat (c q), x1, ?_, ⟨he, by omega, hbl, Or.inr (Or.inr (Or.inr ⟨hq, hnb, ql, qd, rfl, Or.inl ⟨qs, rfl⟩⟩))⟩, by omega, by omega, fun z => ?_, fun z => ?_, fun z => ?_⟩
        · rw [if_pos (by first | trivial | decide), if_neg qd, if_pos (by first | trivial | decide)]
          unfold qlet
          dsimp only
          rw [s1, if_neg (fun z => (s2.mp z) qs)]
        · rw [show (48 : Int32) = Int32.ofNat 48 from rfl, ya_eq (by omega) (by omega)] at z
          unfold zk_sg at qs; omega
        · rw [show (97 : Int32) = Int32.ofNat 97 from rfl, ya_eq (by omega) (by omega)] at z
          unfold zk_sg at qs; omega
        · rw [show (0 : Int32) = Int32.ofNat 0 from rfl, ya_eq (by omega) (by omega)] at z
          unfold zk_sg at qs; omega
      · refine ⟨1, 1, x1, ?_, ⟨he, by omega, hbl, Or.inr (Or.inr (Or.inr ⟨hq, hnb, ql, qd, rfl, Or.inr ⟨qs, rfl⟩⟩))⟩, by omega, by omega, fun z => absurd z (by decide), fun z => absurd z (by decide), by decide⟩
        rw [if_pos (by first | trivial | decide), if_neg qd, if_pos (by first | trivial | decide)]
        unfold qlet
        dsimp only
        rw [s1, if_pos (s2.mpr qs)]
end Z1
