/-! SEMANTICS: tokens, plain -/
def zk_lt (x : Nat) : Prop := 97 ≤ x ∧ x ≤ 122
def zk_dg (x : Nat) : Prop := 48 ≤ x ∧ x ≤ 57
def zk_bl (x : Nat) : Prop := x = 32 ∨ x = 10
def zk_sg (x : Nat) : Prop := x = 59 ∨ x = 61 ∨ x = 38 ∨ x = 124 ∨ x = 94 ∨ x = 60 ∨ x = 43 ∨ x = 45 ∨ x = 42 ∨ x = 47 ∨ x = 37 ∨ x = 126 ∨ x = 40 ∨ x = 41 ∨ x = 123 ∨ x = 125
/-- letters as a number -/
def zk_w (B : Nat) (c : Nat → Nat) (q : Nat) : Nat → Nat
  | 0 => 0
  | l + 1 => zk_w B c q l * B + (c (q + l) - 96)
def zk_v (c : Nat → Nat) (q : Nat) : Nat → Nat
  | 0 => 0
  | l + 1 => zk_v c q l * 10 + (c (q + l) - 48)
theorem zk_inj {B : Nat} (hB : 27 ≤ B) {c c' : Nat → Nat} {q q' : Nat} : ∀ (l l' : Nat), (∀ j, j < l → zk_lt (c (q + j))) → (∀ j, j < l' → zk_lt (c' (q' + j))) → zk_w B c q l = zk_w B c' q' l' → l = l' ∧ ∀ j, j < l → c (q + j) = c' (q' + j) := by
  intro l
  induction l with
  | zero =>
    intro l' _ h2 h
    cases l' with
    | zero => exact ⟨rfl, fun j hj => by omega⟩
    | succ l' =>
      have := h2 l' (by omega)
      unfold zk_lt at this
      simp only [zk_w] at h
      omega
  | succ l ih =>
    intro l' h1 h2 h
    cases l' with
    | zero =>
      have := h1 l (by omega)
      unfold zk_lt at this
      simp only [zk_w] at h
      omega
    | succ l' =>
      have a1 := h1 l (by omega)
      have a2 := h2 l' (by omega)
      unfold zk_lt at a1 a2
      simp only [zk_w] at h
      have hd : zk_w B c q l = zk_w B c' q' l' ∧ c (q + l) - 96 = c' (q' + l') - 96 := by
        have e1 : (zk_w B c q l * B + (c (q + l) - 96)) / B = zk_w B c q l := by
          rw [Nat.mul_comm, Nat.mul_add_div (by omega), Nat.div_eq_of_lt (by omega), Nat.add_zero]
        have e2 : (zk_w B c' q' l' * B + (c' (q' + l') - 96)) / B = zk_w B c' q' l' := by
          rw [Nat.mul_comm, Nat.mul_add_div (by omega), Nat.div_eq_of_lt (by omega), Nat.add_zero]
        have e3 : zk_w B c q l = zk_w B c' q' l' := by rw [← e1, ← e2, h]
        refine ⟨e3, ?_⟩
        rw [e3] at h
        omega
      obtain ⟨i1, i2⟩ := ih l' (fun j hj => h1 j (by omega)) (fun j hj => h2 j (by omega)) hd.1
      subst i1
      refine ⟨rfl, fun j hj => ?_⟩
      by_cases z : j = l
      · subst z; omega
      · exact i2 j (by omega)
theorem zk_wcg (B : Nat) {c c' : Nat → Nat} {q q' : Nat} : ∀ l, (∀ j, j < l → c (q + j) = c' (q' + j)) → zk_w B c q l = zk_w B c' q' l := by
  intro l
  induction l with
  | zero => intro _; rfl
  | succ l ih => intro h; unfold zk_w; rw [ih (fun j hj => h j (by omega)), h l (by omega)]
theorem zk_wb {B : Nat} (hB : 27 ≤ B) {c : Nat → Nat} {q : Nat} : ∀ l, (∀ j, j < l → zk_lt (c (q + j))) → zk_w B c q l + 1 ≤ B ^ l := by
  intro l
  induction l with
  | zero => intro _; simp [zk_w]
  | succ l ih =>
    intro h
    have h1 := ih (fun j hj => h j (by omega))
    have h2 := h l (by omega)
    unfold zk_lt at h2
    unfold zk_w
    rw [Nat.pow_succ]
    have : (zk_w B c q l + 1) * B ≤ B ^ l * B := Nat.mul_le_mul_right B h1
    rw [Nat.add_mul] at this
    omega
theorem zk_vb {c : Nat → Nat} {q : Nat} : ∀ l, (∀ j, j < l → zk_dg (c (q + j))) → zk_v c q l + 1 ≤ 10 ^ l := by
  intro l
  induction l with
  | zero => intro _; simp [zk_v]
  | succ l ih =>
    intro h
    have h1 := ih (fun j hj => h j (by omega))
    have h2 := h l (by omega)
    unfold zk_dg at h2
    unfold zk_v
    rw [Nat.pow_succ]
    omega
theorem zk_w27 {c : Nat → Nat} {q l : Nat} (hl : l ≤ 6) (h : ∀ j, j < l → zk_lt (c (q + j))) : zk_w 27 c q l < 387420489 := by
  have := zk_wb (B := 27) (by omega) l h
  have h2 : 27 ^ l ≤ 27 ^ 6 := Nat.pow_le_pow_right (by omega) hl
  have h3 : (27 : Nat) ^ 6 = 387420489 := by decide
  omega
theorem zk_w32 {c : Nat → Nat} {q l : Nat} (hl : l ≤ 6) (h : ∀ j, j < l → zk_lt (c (q + j))) : zk_w 32 c q l < 1073741824 := by
  have := zk_wb (B := 32) (by omega) l h
  have h2 : 32 ^ l ≤ 32 ^ 6 := Nat.pow_le_pow_right (by omega) hl
  have h3 : (32 : Nat) ^ 6 = 1073741824 := by decide
  omega
theorem zk_v5 {c : Nat → Nat} {q l : Nat} (hl : l ≤ 5) (h : ∀ j, j < l → zk_dg (c (q + j))) : zk_v c q l < 100000 := by
  have := zk_vb l h
  have h2 : 10 ^ l ≤ 10 ^ 5 := Nat.pow_le_pow_right (by omega) hl
  have h3 : (10 : Nat) ^ 5 = 100000 := by decide
  omega
/-- the own words -/
def zk_kw : List Nat := [115, 107, 101, 116, 99, 104, 105, 110, 32, 32, 32, 32, 104, 111, 108, 101, 32, 32, 114, 97, 110, 107, 32, 32, 118, 97, 114, 32, 32, 32, 109, 117, 115, 116, 32, 32, 105, 102, 32, 32, 32, 32, 101, 108, 115, 101, 32, 32, 108, 111, 111, 112, 32, 32, 119, 104, 105, 108, 101, 32, 109, 111, 115, 116, 32, 32, 108, 101, 116, 32, 32, 32, 115, 112, 101, 99, 32, 32]
def zk_kl : List Nat := [6, 2, 4, 4, 3, 4, 2, 4, 4, 5, 4, 3, 4]
/-- the k-th own word stands at q -/
def zk_is (c : Nat → Nat) (q l k : Nat) : Prop := ∀ j, j < 6 → (if j < l then c (q + j) else 32) = zk_kw.getD (6 * k + j) 0
def zk_kwc (i : Nat) : Nat := zk_kw.getD i 0
theorem zk_kwok : ∀ k, k < 13 → zk_kl.getD k 0 ≤ 6 ∧ (∀ j, j < 6 → (j < zk_kl.getD k 0 → zk_lt (zk_kwc (6 * k + j))) ∧ (¬ j < zk_kl.getD k 0 → zk_kwc (6 * k + j) = 32)) := by
  unfold zk_lt
  decide +kernel
theorem zk_is_w {c : Nat → Nat} {q l k : Nat} (hk : k < 13) (hl : l ≤ 6) (h : ∀ j, j < l → zk_lt (c (q + j))) : zk_is c q l k ↔ zk_w 32 c q l = zk_w 32 zk_kwc (6 * k) (zk_kl.getD k 0) := by
  obtain ⟨k1, k2⟩ := zk_kwok k hk
  constructor
  · intro hi
    have e : l = zk_kl.getD k 0 := by
      by_cases z : l < zk_kl.getD k 0
      · have a := hi l (by omega)
        rw [if_neg (by omega)] at a
        have b := (k2 l (by omega)).1 z
        have : zk_kwc (6 * k + l) = 32 := a.symm
        unfold zk_lt at b
        omega
      · by_cases z2 : zk_kl.getD k 0 < l
        · have a := hi (zk_kl.getD k 0) (by omega)
          rw [if_pos z2] at a
          have b := (k2 (zk_kl.getD k 0) (by omega)).2 (by omega)
          have e1 : c (q + zk_kl.getD k 0) = zk_kwc (6 * k + zk_kl.getD k 0) := a
          have e2 := h _ z2
          unfold zk_lt at e2
          omega
        · omega
    subst e
    refine zk_wcg 32 _ (fun j hj => ?_)
    have a := hi j (by omega)
    rw [if_pos hj] at a
    exact a
  · intro hw
    obtain ⟨e1, e2⟩ := zk_inj (B := 32) (by omega) l _ h (fun j hj => (k2 j (by omega)).1 hj) hw
    intro j hj
    by_cases z : j < l
    · rw [if_pos z]; exact e2 j z
    · rw [if_neg z]
      exact ((k2 j hj).2 (by omega)).symm
/-- which kind of word -/
def zk_wk (c : Nat → Nat) (q l : Nat) (k : Int32) : Prop := (∃ j, j < 13 ∧ zk_is c q l j ∧ (∀ i, i < j → ¬ zk_is c q l i) ∧ k = Int32.ofNat (128 + j)) ∨ ((∀ i, i < 13 → ¬ zk_is c q l i) ∧ k = 97)
/-- behind e the next token stands at q, has l bytes and kind k -/
def zk_tok (c : Nat → Nat) (n e q l : Nat) (k : Int32) : Prop :=
  e ≤ q ∧ q ≤ n ∧ (∀ j, e ≤ j → j < q → zk_bl (c j)) ∧
  ((q = n ∧ k = 0 ∧ l = 0) ∨
   (q < n ∧ zk_lt (c q) ∧ 1 ≤ l ∧ q + l ≤ n ∧ (∀ j, j < l → zk_lt (c (q + j))) ∧ (q + l < n → ¬ zk_lt (c (q + l))) ∧ ((l ≤ 6 ∧ zk_wk c q l k) ∨ (6 < l ∧ k = 1))) ∨
   (q < n ∧ zk_dg (c q) ∧ 1 ≤ l ∧ q + l ≤ n ∧ (∀ j, j < l → zk_dg (c (q + j))) ∧ (q + l < n → ¬ zk_dg (c (q + l))) ∧ ((l ≤ 5 ∧ k = 48) ∨ (5 < l ∧ k = 1))) ∨
   (q < n ∧ ¬ zk_bl (c q) ∧ ¬ zk_lt (c q) ∧ ¬ zk_dg (c q) ∧ l = 1 ∧ ((zk_sg (c q) ∧ k = Int32.ofNat (c q)) ∨ (¬ zk_sg (c q) ∧ k = 1))))
