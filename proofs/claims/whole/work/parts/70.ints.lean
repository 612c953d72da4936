/-! SEMANTICS, toolkit: small numbers -/
theorem ya_nn {k : Nat} (h : k < 2147483648) : (Int32.ofNat k).toNatClampNeg = k := by
  rw [Int32.toNatClampNeg_ofNat_of_lt (by omega)]
theorem ya_int {k : Nat} (h : k < 2147483648) : (Int32.ofNat k).toInt = k := Int32.toInt_ofNat_of_lt (by omega)
theorem ya_lt {a b : Nat} (ha : a < 2147483648) (hb : b < 2147483648) : (Int32.ofNat a < Int32.ofNat b) ↔ a < b := by
  rw [Int32.lt_iff_toInt_lt, ya_int ha, ya_int hb]; omega
theorem ya_le {a b : Nat} (ha : a < 2147483648) (hb : b < 2147483648) : (Int32.ofNat a ≤ Int32.ofNat b) ↔ a ≤ b := by
  rw [Int32.le_iff_toInt_le, ya_int ha, ya_int hb]; omega
theorem ya_eq {a b : Nat} (ha : a < 2147483648) (hb : b < 2147483648) : (Int32.ofNat a = Int32.ofNat b) ↔ a = b := by
  rw [← Int32.toInt_inj, ya_int ha, ya_int hb]; omega
theorem ya_lt0 {a : Nat} (ha : a < 2147483648) : ¬ (Int32.ofNat a < 0) := by
  rw [Int32.lt_iff_toInt_lt, ya_int ha]; show ¬ ((a : Int) < 0); omega
theorem ya_ge0 {a : Nat} (ha : a < 2147483648) : (0 : Int32) ≤ Int32.ofNat a := by
  rw [Int32.le_iff_toInt_le, ya_int ha]; show ((0:Int) ≤ a); omega
theorem ya_in {k n : Nat} (h : k < 2147483648) (hn : k < n) : qm_in (Int32.ofNat k) n = true := by
  unfold qm_in
  rw [ya_nn h]
  simp [ya_lt0 h, hn]
theorem ya_add (a b : Nat) : Int32.ofNat a + Int32.ofNat b = Int32.ofNat (a + b) := (Int32.ofNat_add a b).symm
theorem ya_add1 (a : Nat) : Int32.ofNat a + 1 = Int32.ofNat (a + 1) := ya_add a 1
theorem ya_mul (a b : Nat) : Int32.ofNat a * Int32.ofNat b = Int32.ofNat (a * b) := (Int32.ofNat_mul a b).symm
theorem ya_sub {a b : Nat} (h : b ≤ a) : Int32.ofNat a - Int32.ofNat b = Int32.ofNat (a - b) := by
  have : a = (a - b) + b := by omega
  conv => lhs; rw [this, ← ya_add]
  exact Int32.add_sub_cancel _ _
theorem ya_sub1 {a : Nat} (h : 1 ≤ a) : Int32.ofNat a - 1 = Int32.ofNat (a - 1) := ya_sub h
/-- a number that is not below 0 is one of Nat -/
theorem ya_nat {x : Int32} (h : ¬ x < 0) : ∃ k, k < 2147483648 ∧ x = Int32.ofNat k := by
  refine ⟨x.toInt.toNat, ?_, ?_⟩
  · have := Int32.toInt_lt x; omega
  · have h0 : (0 : Int) ≤ x.toInt := by
      rw [Int32.lt_iff_toInt_lt] at h
      have : (0 : Int32).toInt = 0 := rfl
      omega
    rw [← Int32.toInt_inj, ya_int (by have := Int32.toInt_lt x; omega)]
    omega
theorem ya_nat_lt {x : Int32} {n : Nat} (hn : n < 2147483648) (h : ¬ x < 0) (h' : ¬ Int32.ofNat n ≤ x) : ∃ k, k < n ∧ x = Int32.ofNat k := by
  obtain ⟨k, hk, rfl⟩ := ya_nat h
  refine ⟨k, ?_, rfl⟩
  rw [ya_le hn hk] at h'
  omega
theorem ya_u_same {α : Type} (f : Nat → Nat → α) (a i : Nat) (x : α) : qm_u f a i x a i = x := by simp [qm_u]
theorem ya_u_a {α : Type} (f : Nat → Nat → α) (a i : Nat) (x : α) {b j : Nat} (h : b ≠ a) : qm_u f a i x b j = f b j := by simp [qm_u, h]
theorem ya_u_i {α : Type} (f : Nat → Nat → α) (a i : Nat) (x : α) {b j : Nat} (h : j ≠ i) : qm_u f a i x b j = f b j := by
  unfold qm_u; split
  · rfl
  · rfl
theorem yb1 {α β : Type} (a : α) (f : α → Option β) : qb1 (some a) f = f a := rfl
theorem yb2 {α β γ : Type} (a : α) (b : β) (f : α → β → Option γ) : qb2 (some (a, b)) f = f a b := rfl
theorem yg1 {α : Type} (t : Option α) : qg true t = t := rfl
theorem yg0 : qm_bz 0 = true := by decide
theorem yg01 : qm_bz 1 = true := by decide
theorem ya_tsub {x y : Int32} (h1 : -2147483648 ≤ x.toInt - y.toInt) (h2 : x.toInt - y.toInt < 2147483648) : (x - y).toInt = x.toInt - y.toInt := by
  rw [Int32.toInt_sub, Int.bmod_def]; omega
theorem ya_tadd {x y : Int32} (h1 : -2147483648 ≤ x.toInt + y.toInt) (h2 : x.toInt + y.toInt < 2147483648) : (x + y).toInt = x.toInt + y.toInt := by
  rw [Int32.toInt_add, Int.bmod_def]; omega
