/-! SEMANTICS: digits -/
theorem yt_div {a b : Nat} (ha : a < 2147483648) (hb : b < 2147483648) : Int32.ofNat a / Int32.ofNat b = Int32.ofNat (a / b) := by
  apply Int32.toInt_inj.mp
  have h1 : a / b < 2147483648 := Nat.lt_of_le_of_lt (Nat.div_le_self _ _) ha
  rw [Int32.toInt_div, ya_int ha, ya_int hb, ya_int h1, ← Int.ofNat_tdiv]
  generalize a / b = d at h1 ⊢
  exact Int.bmod_eq_of_le (by omega) (by omega)
theorem yt_mod10 {a : Nat} (ha : a < 2147483648) : (48 : Int32) + (Int32.ofNat a - Int32.ofNat a / 10 * 10) = Int32.ofNat (48 + a % 10) := by
  rw [show (10 : Int32) = Int32.ofNat 10 from rfl, yt_div ha (by omega), ya_mul, ya_sub (by omega), show (48 : Int32) = Int32.ofNat 48 from rfl, ya_add]
  congr 1; omega
/-- the last k digits of v, as bytes -/
def yt_d : Nat → Nat → List Nat
  | 0, _ => []
  | k + 1, v => yt_d k (v / 10) ++ [48 + v % 10]
def yt_n (v : Nat) : Nat := if v < 10 then 1 else if v < 100 then 2 else if v < 1000 then 3 else if v < 10000 then 4 else 5
theorem yt_len : ∀ k v, (yt_d k v).length = k := by
  intro k
  induction k with
  | zero => intro v; rfl
  | succ k ih => intro v; unfold yt_d; rw [List.length_append, ih]; rfl
theorem yt_get : ∀ k v j, j < k → (yt_d k v)[j]? = some (48 + v / 10 ^ (k - 1 - j) % 10) := by
  intro k
  induction k with
  | zero => intro v j h; omega
  | succ k ih =>
    intro v j h
    unfold yt_d
    by_cases q : j < k
    · rw [List.getElem?_append_left (by rw [yt_len]; exact q), ih (v / 10) j q, Nat.div_div_eq_div_mul, show 10 * 10 ^ (k - 1 - j) = 10 ^ (k + 1 - 1 - j) by rw [show k + 1 - 1 - j = (k - 1 - j) + 1 by omega, Nat.pow_succ]; omega]
    · rw [List.getElem?_append_right (by rw [yt_len]; omega), yt_len, show j - k = 0 by omega, show k + 1 - 1 - j = 0 by omega]
      simp
theorem yt_text {c : Nat → Nat} {q : Nat} : ∀ l, (∀ j, j < l → zk_dg (c (q + j))) → yt_d l (zk_v c q l) = (List.range l).map (fun j => c (q + j)) := by
  intro l
  induction l with
  | zero => intro _; rfl
  | succ l ih =>
    intro h
    have hd := h l (by omega)
    unfold zk_dg at hd
    unfold yt_d zk_v
    rw [show (zk_v c q l * 10 + (c (q + l) - 48)) / 10 = zk_v c q l by omega, show (zk_v c q l * 10 + (c (q + l) - 48)) % 10 = c (q + l) - 48 by omega, ih (fun j hj => h j (by omega)), List.range_succ, List.map_append, show 48 + (c (q + l) - 48) = c (q + l) by omega]
    rfl
theorem yt_zero {c : Nat → Nat} {q : Nat} (h0 : c q = 48) : ∀ l, zk_v c q (l + 1) = zk_v c (q + 1) l := by
  intro l
  induction l with
  | zero => unfold zk_v zk_v; rw [Nat.add_zero, h0]
  | succ l ih =>
    conv => lhs; unfold zk_v
    rw [ih]
    conv => rhs; unfold zk_v
    rw [show q + 1 + l = q + (l + 1) by omega]
theorem yt_lt {c : Nat → Nat} {q : Nat} : ∀ l, (∀ j, j < l → zk_dg (c (q + j))) → zk_v c q l < 10 ^ l := by
  intro l
  induction l with
  | zero => intro _; exact Nat.one_pos
  | succ l ih =>
    intro h
    have hd := h l (by omega)
    have := ih (fun j hj => h j (by omega))
    unfold zk_dg at hd
    unfold zk_v
    rw [Nat.pow_succ]
    omega
theorem yt_ge {c : Nat → Nat} {q : Nat} (h0 : c q ≠ 48) : ∀ l, (∀ j, j < l + 1 → zk_dg (c (q + j))) → 10 ^ l ≤ zk_v c q (l + 1) := by
  intro l
  induction l with
  | zero => intro h; have := h 0 (by omega); unfold zk_dg at this; unfold zk_v zk_v; rw [Nat.add_zero] at *; simp; omega
  | succ l ih =>
    intro h
    have := ih (fun j hj => h j (by omega))
    unfold zk_v
    rw [Nat.pow_succ]
    omega
theorem yt_nl {v l : Nat} (h1 : 10 ^ l ≤ v ∨ l = 0) (h2 : v < 10 ^ (l + 1)) (hl : l + 1 ≤ 5) : yt_n v = l + 1 := by
  unfold yt_n
  rcases (by omega : l = 0 ∨ l = 1 ∨ l = 2 ∨ l = 3 ∨ l = 4) with rfl | rfl | rfl | rfl | rfl <;> simp only [Nat.reducePow, Nat.reduceAdd] at h1 h2 <;> (repeat' split) <;> omega
section D1
variable {F nR nN nT : Nat} {φ : qm_F}
theorem yt_L4 {a v m : Nat} (ha : a < 5) (hv : v < 2147483648) : pr_digitsOf_L4 F nR nN nT (m + 1) φ (Int32.ofNat a) (Int32.ofNat v) = if v < 10 then some (Int32.ofNat a) else pr_digitsOf_L4 F nR nN nT m φ (Int32.ofNat (a + 1)) (Int32.ofNat (v / 10)) := by
  conv => lhs; unfold pr_digitsOf_L4
  rw [if_neg (by rw [show (5 : Int32) = Int32.ofNat 5 from rfl, ya_le (by omega) (by omega)]; omega), ya_add1, show (10 : Int32) = Int32.ofNat 10 from rfl, yt_div hv (by omega)]
  by_cases q : v < 10
  · rw [if_pos q, if_pos (by rw [show (9 : Int32) = Int32.ofNat 9 from rfl, ya_le (by omega) (by omega)]; omega)]
  · rw [if_neg q, if_neg (by rw [show (9 : Int32) = Int32.ofNat 9 from rfl, ya_le (by omega) (by omega)]; omega)]
theorem yt_L4e {v m : Nat} : pr_digitsOf_L4 F nR nN nT (m + 1) φ (Int32.ofNat 5) (Int32.ofNat v) = some (Int32.ofNat 5) := by
  unfold pr_digitsOf_L4
  rw [if_pos (by decide)]
theorem yt_digitsOf (hF : 200000 ≤ F) {v : Nat} (h : v < 100000) : pr_digitsOf F nR nN nT φ (Int32.ofNat v) = some (Int32.ofNat (yt_n v)) := by
  unfold pr_digitsOf
  have e : ∀ m, pr_digitsOf_L4 F nR nN nT (m + 5) φ (Int32.ofNat 1) (Int32.ofNat v) = some (Int32.ofNat (yt_n v)) := by
    intro m
    rw [show m + 5 = m + 1 + 1 + 1 + 1 + 1 from rfl, yt_L4 (by omega) (by omega), yt_L4 (by omega) (by omega), yt_L4 (by omega) (by omega), yt_L4 (by omega) (by omega), yt_L4e, Nat.div_div_eq_div_mul, Nat.div_div_eq_div_mul]
    unfold yt_n
    by_cases c1 : v < 10
    · rw [if_pos c1, if_pos c1]
    rw [if_neg c1, if_neg c1]
    by_cases c2 : v < 100
    · rw [if_pos (by omega), if_pos c2]
    rw [if_neg (by omega), if_neg c2]
    by_cases c3 : v < 1000
    · rw [if_pos (by omega), if_pos c3]
    rw [if_neg (by omega), if_neg c3]
    by_cases c4 : v < 10000
    · rw [if_pos (by omega), if_pos c4]
    rw [if_neg (by omega), if_neg c4]
  have e1 := e (F - 5)
  rw [show F - 5 + 5 = F by omega] at e1
  exact e1
theorem yt_L35 : ∀ (d m v j : Nat), d + 1 ≤ m → v < 2147483648 → d + j < 2147483648 → pr_byteOfToken_L35 F nR nN nT m φ (Int32.ofNat j) (Int32.ofNat v) (Int32.ofNat (d + j)) = some (Int32.ofNat (48 + v / 10 ^ d % 10)) := by
  intro d
  induction d with
  | zero =>
    intro m v j h1 h2 h3
    obtain ⟨m, rfl⟩ : ∃ z, m = z + 1 := ⟨m - 1, by omega⟩
    unfold pr_byteOfToken_L35
    rw [if_pos (by rw [ya_le (by omega) (by omega)]; omega), yt_mod10 h2]
    simp
  | succ d ih =>
    intro m v j h1 h2 h3
    obtain ⟨m, rfl⟩ : ∃ z, m = z + 1 := ⟨m - 1, by omega⟩
    unfold pr_byteOfToken_L35
    rw [if_neg (by rw [ya_le (by omega) (by omega)]; omega), show (10 : Int32) = Int32.ofNat 10 from rfl, yt_div h2 (by omega), show Int32.ofNat (d + 1 + j) + (-1) = Int32.ofNat (d + j) from by rw [← Int32.sub_eq_add_neg, ya_sub1 (by omega)]; congr 1; omega, ih m (v / 10) j (by omega) (by omega) (by omega), Nat.div_div_eq_div_mul, show 10 * 10 ^ d = 10 ^ (d + 1) by rw [Nat.pow_succ]; omega]
end D1
