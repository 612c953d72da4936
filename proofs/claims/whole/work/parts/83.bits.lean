/-! SEMANTICS: bits -/
def bu (x : Int64) : Nat := x.toBitVec.toNat
theorem bu_lt (x : Int64) : bu x < 18446744073709551616 := x.toBitVec.isLt
theorem bu_and (x y : Int64) : bu (x &&& y) = bu x &&& bu y := by unfold bu; rw [Int64.toBitVec_and, BitVec.toNat_and]
theorem bu_add (x y : Int64) (h : bu x + bu y < 18446744073709551616) : bu (x + y) = bu x + bu y := by unfold bu at *; rw [Int64.toBitVec_add, BitVec.toNat_add]; exact Nat.mod_eq_of_lt h
theorem bu_sub (x y : Int64) (h : bu y ≤ bu x) : bu (x - y) = bu x - bu y := by
  unfold bu at *; rw [Int64.toBitVec_sub, BitVec.toNat_sub]; have := x.toBitVec.isLt; have := y.toBitVec.isLt; omega
theorem bu_shr (x : Int64) (s : UInt64) (n : Nat) (h : s.toNat = n) (h2 : n < 64) : bu ((Int64.toUInt64 x >>> s).toInt64) = bu x / 2 ^ n := by
  unfold bu
  show (Int64.toUInt64 x >>> s).toBitVec.toNat = _
  rw [UInt64.toBitVec_shiftRight, BitVec.ushiftRight_eq', BitVec.toNat_ushiftRight, Nat.shiftRight_eq_div_pow]
  have : (s.toBitVec % 64).toNat = n := by
    rw [BitVec.toNat_umod]
    show s.toNat % 64 = n
    omega
  rw [this]
  rfl
theorem bu_inj {x y : Int64} (h : bu x = bu y) : x = y := by
  have : x.toBitVec = y.toBitVec := BitVec.eq_of_toNat_eq h
  exact Int64.toBitVec_inj.mp this
theorem bt_sh : ∀ j, j < 40 → ((Int32.toInt64 (Int32.ofNat j)).toUInt64 &&& Int64.toUInt64 63).toNat = j := by decide +kernel
theorem bt_get (x : Int64) {j : Nat} (h : j < 40) : ss_bt x j = (bu x).testBit j := by
  unfold ss_bt
  have e : bu (((Int64.toUInt64 x >>> ((Int32.toInt64 (Int32.ofNat j)).toUInt64 &&& Int64.toUInt64 63)).toInt64) &&& 1) = bu x / 2 ^ j % 2 := by
    rw [bu_and, bu_shr _ _ j (bt_sh j h) (by omega), show bu 1 = 2 ^ 1 - 1 from rfl, Nat.and_two_pow_sub_one_eq_mod]
  rw [Nat.testBit_eq_decide_div_mod_eq]
  generalize (((Int64.toUInt64 x >>> ((Int32.toInt64 (Int32.ofNat j)).toUInt64 &&& Int64.toUInt64 63)).toInt64) &&& 1) = z at *
  unfold lg_cmp
  rcases (by omega : bu x / 2 ^ j % 2 = 0 ∨ bu x / 2 ^ j % 2 = 1) with q | q
  · have : z = 0 := bu_inj (by rw [e, q]; rfl)
    rw [q, this]; decide
  · have : z = 1 := bu_inj (by rw [e, q]; rfl)
    rw [q, this]; decide

/-- masks by bytes -/
def bc_m (c : Nat) : Nat → Nat
  | 0 => 0
  | k + 1 => c + 256 * bc_m c k
def bc_s (k x : Nat) : Nat :=
  let a := x - (x / 2 &&& bc_m 85 k)
  let b := (a &&& bc_m 51 k) + (a / 4 &&& bc_m 51 k)
  (b + b / 16) &&& bc_m 15 k
theorem bc_and {a b m n : Nat} (ha : a < 256) (hm : m < 256) : (a + 256 * b) &&& (m + 256 * n) = (a &&& m) + 256 * (b &&& n) := by
  have h : (a &&& m) < 2 ^ 8 := Nat.and_lt_two_pow _ hm
  rw [show a + 256 * b = 2 ^ 8 * b + a by omega, show m + 256 * n = 2 ^ 8 * n + m by omega, show (a &&& m) + 256 * (b &&& n) = 2 ^ 8 * (b &&& n) + (a &&& m) by omega]
  apply Nat.eq_of_testBit_eq
  intro i
  rw [Nat.testBit_and, Nat.testBit_two_pow_mul_add _ (by omega), Nat.testBit_two_pow_mul_add _ (by omega), Nat.testBit_two_pow_mul_add _ h]
  split <;> simp [Nat.testBit_and]
def bc_A (k x : Nat) : Nat := x - (x / 2 &&& bc_m 85 k)
def bc_B (k x : Nat) : Nat := (bc_A k x &&& bc_m 51 k) + (bc_A k x / 4 &&& bc_m 51 k)
def bc_C (k x : Nat) : Nat := (bc_B k x + bc_B k x / 16) &&& bc_m 15 k
def bc_a (x : Nat) : Nat := x - (x / 2 &&& 85)
def bc_b (x : Nat) : Nat := (bc_a x &&& 51) + (bc_a x / 4 &&& 51)
def bc_c (x : Nat) : Nat := (bc_b x + bc_b x / 16) % 16
theorem bc_f : ∀ a, a < 256 → bc_a a < 256 ∧ bc_b a < 128 ∧ bc_b a % 16 ≤ 4 := by decide +kernel
theorem bc_x1 : ∀ b, b < 2 → ∀ a, a < 256 → (a / 2 + 128 * b &&& 85) = (a / 2 &&& 85) := by decide +kernel
theorem bc_x2 : ∀ b, b < 4 → ∀ a, a < 256 → (a / 4 + 64 * b &&& 51) = (a / 4 &&& 51) := by decide +kernel
theorem bc_As (k : Nat) {a b : Nat} (ha : a < 256) : bc_A (k + 1) (a + 256 * b) = bc_a a + 256 * bc_A k b := by
  unfold bc_A bc_a
  show (a + 256 * b) - ((a + 256 * b) / 2 &&& (85 + 256 * bc_m 85 k)) = _
  rw [show (a + 256 * b) / 2 = (a / 2 + 128 * (b % 2)) + 256 * (b / 2) by omega, bc_and (by omega) (by omega), bc_x1 (b % 2) (by omega) a ha]
  have h1 : (a / 2 &&& 85) ≤ a / 2 := Nat.and_le_left
  have h2 : (b / 2 &&& bc_m 85 k) ≤ b / 2 := Nat.and_le_left
  omega
theorem bc_Bs (k : Nat) {a b : Nat} (ha : a < 256) : bc_B (k + 1) (a + 256 * b) = bc_b a + 256 * bc_B k b := by
  unfold bc_B bc_b
  rw [bc_As k ha]
  have h := (bc_f a ha).1
  generalize bc_a a = p at *
  generalize bc_A k b = q
  show ((p + 256 * q) &&& (51 + 256 * bc_m 51 k)) + ((p + 256 * q) / 4 &&& (51 + 256 * bc_m 51 k)) = _
  rw [show (p + 256 * q) / 4 = (p / 4 + 64 * (q % 4)) + 256 * (q / 4) by omega, bc_and (by omega) (by omega), bc_and (by omega) (by omega), bc_x2 (q % 4) (by omega) p h]
  omega
theorem bc_B0 (k : Nat) : bc_B k 0 = 0 := by unfold bc_B bc_A; simp
theorem bc_B4 (k b : Nat) : bc_B k b % 16 ≤ 4 := by
  cases k with
  | zero => unfold bc_B bc_m; simp
  | succ k =>
    rw [show b = b % 256 + 256 * (b / 256) by omega, bc_Bs k (by omega)]
    have := (bc_f (b % 256) (by omega)).2.2
    omega
theorem bc_Cs (k : Nat) {a b : Nat} (ha : a < 256) : bc_C (k + 1) (a + 256 * b) = bc_c a + 256 * bc_C k b := by
  unfold bc_C bc_c
  rw [bc_Bs k ha]
  have h := (bc_f a ha).2
  have h4 := bc_B4 k b
  generalize bc_b a = p at *
  generalize bc_B k b = q at *
  show ((p + 256 * q) + (p + 256 * q) / 16) &&& (15 + 256 * bc_m 15 k) = _
  rw [show (p + 256 * q) + (p + 256 * q) / 16 = (p + p / 16 + 16 * (q % 16)) + 256 * (q + q / 16) by omega, bc_and (by omega) (by omega), show (15 : Nat) = 2 ^ 4 - 1 from rfl, Nat.and_two_pow_sub_one_eq_mod]
  omega
theorem bc_C0 (k : Nat) : bc_C k 0 = 0 := by unfold bc_C; rw [bc_B0]; simp
def bc_bits (a : Nat) : Nat := sp_cnt (fun j => a.testBit j) 0 8
theorem bc_cb : ∀ a, a < 256 → bc_c a = bc_bits a := by decide +kernel
theorem sp_cnt_add (P : Nat → Bool) : ∀ n m i, sp_cnt P i (n + m) = sp_cnt P i n + sp_cnt P (i + n) m := by
  intro n
  induction n with
  | zero => intro m i; simp [sp_cnt]
  | succ n ih =>
    intro m i
    rw [show n + 1 + m = (n + m) + 1 by omega]
    show (if P i = true then 1 else 0) + sp_cnt P (i + 1) (n + m) = (if P i = true then 1 else 0) + sp_cnt P (i + 1) n + sp_cnt P (i + (n + 1)) m
    rw [ih m (i + 1), show i + 1 + n = i + (n + 1) by omega]
    omega
theorem sp_cnt_c {P Q : Nat → Bool} : ∀ n i k, (∀ j, j < n → P (i + j) = Q (k + j)) → sp_cnt P i n = sp_cnt Q k n := by
  intro n
  induction n with
  | zero => intro i k _; rfl
  | succ n ih =>
    intro i k h
    unfold sp_cnt
    rw [show P i = Q k from h 0 (by omega), ih (i + 1) (k + 1) (fun j hj => by rw [show i + 1 + j = i + (j + 1) by omega, show k + 1 + j = k + (j + 1) by omega]; exact h (j + 1) (by omega))]
theorem bc_split (a b n : Nat) (ha : a < 256) : sp_cnt (fun j => (a + 256 * b).testBit j) 0 (8 + n) = bc_bits a + sp_cnt (fun j => b.testBit j) 0 n := by
  rw [sp_cnt_add]
  have e : a + 256 * b = 2 ^ 8 * b + a := by omega
  unfold bc_bits
  rw [sp_cnt_c (Q := fun j => a.testBit j) 8 0 0 (fun j hj => by show Nat.testBit _ _ = _; rw [e, Nat.testBit_two_pow_mul_add _ (by omega), if_pos (by omega)]),
    sp_cnt_c (Q := fun j => b.testBit j) n (0 + 8) 0 (fun j hj => by show Nat.testBit _ _ = _; rw [e, Nat.testBit_two_pow_mul_add _ (by omega), if_neg (by omega)]; congr 1; omega)]
theorem bc_le (a : Nat) : bc_bits a ≤ 8 := by
  unfold bc_bits
  have : ∀ n i, sp_cnt (fun j => a.testBit j) i n ≤ n := by
    intro n
    induction n with
    | zero => intro i; exact Nat.le_refl _
    | succ n ih => intro i; unfold sp_cnt; have := ih (i + 1); split <;> omega
  exact this 8 0
/-- five bytes -/
theorem bc_5 {x : Nat} (hx : x < 1099511627776) : ∃ c0 c1 c2 c3 c4, c0 ≤ 8 ∧ c1 ≤ 8 ∧ c2 ≤ 8 ∧ c3 ≤ 8 ∧ c4 ≤ 8 ∧ bc_C 8 x = c0 + 256 * (c1 + 256 * (c2 + 256 * (c3 + 256 * c4))) ∧ sp_cnt (fun j => x.testBit j) 0 40 = c0 + (c1 + (c2 + (c3 + c4))) := by
  obtain ⟨a0, b0, h0, e0⟩ : ∃ a b, a < 256 ∧ x = a + 256 * b := ⟨x % 256, x / 256, by omega, by omega⟩
  obtain ⟨a1, b1, h1, e1⟩ : ∃ a b, a < 256 ∧ b0 = a + 256 * b := ⟨b0 % 256, b0 / 256, by omega, by omega⟩
  obtain ⟨a2, b2, h2, e2⟩ : ∃ a b, a < 256 ∧ b1 = a + 256 * b := ⟨b1 % 256, b1 / 256, by omega, by omega⟩
  obtain ⟨a3, b3, h3, e3⟩ : ∃ a b, a < 256 ∧ b2 = a + 256 * b := ⟨b2 % 256, b2 / 256, by omega, by omega⟩
  have f0 : b0 < 4294967296 := by omega
  have f1 : b1 < 16777216 := by omega
  have f2 : b2 < 65536 := by omega
  have f3 : b3 < 256 := by omega
  refine ⟨bc_bits a0, bc_bits a1, bc_bits a2, bc_bits a3, bc_bits b3, bc_le _, bc_le _, bc_le _, bc_le _, bc_le _, ?_, ?_⟩
  · have hb : bc_C 4 b3 = bc_c b3 := by
      have := bc_Cs 3 (b := 0) f3
      rw [bc_C0] at this
      exact this
    rw [e0, bc_Cs 7 h0, e1, bc_Cs 6 h1, e2, bc_Cs 5 h2, e3, bc_Cs 4 h3, hb, bc_cb _ h0, bc_cb _ h1, bc_cb _ h2, bc_cb _ h3, bc_cb _ f3]
  · rw [e0, show (40 : Nat) = 8 + 32 from rfl, bc_split _ _ 32 h0, e1, show (32 : Nat) = 8 + 24 from rfl, bc_split _ _ 24 h1, e2, show (24 : Nat) = 8 + 16 from rfl, bc_split _ _ 16 h2, e3, show (16 : Nat) = 8 + 8 from rfl, bc_split _ _ 8 h3]
    rfl
theorem bc_D {c0 c1 c2 c3 c4 y z w v : Nat} (h0 : c0 ≤ 8) (h1 : c1 ≤ 8) (h2 : c2 ≤ 8) (h3 : c3 ≤ 8) (h4 : c4 ≤ 8) (hy : y = c0 + 256 * (c1 + 256 * (c2 + 256 * (c3 + 256 * c4)))) (hz : z = y + y / 256) (hw : w = z + z / 65536) (hv : v = w + w / 4294967296) : v % 128 = c0 + (c1 + (c2 + (c3 + c4))) ∧ v < 9223372036854775808 ∧ w < 9223372036854775808 ∧ z < 9223372036854775808 ∧ y < 9223372036854775808 := by
  obtain ⟨y4, e4⟩ : ∃ y4, y4 = c4 := ⟨_, rfl⟩
  obtain ⟨y3, e3⟩ : ∃ y3, y3 = c3 + 256 * c4 := ⟨_, rfl⟩
  obtain ⟨y2, e2⟩ : ∃ y2, y2 = c2 + 256 * y3 := ⟨_, rfl⟩
  obtain ⟨y1, e1⟩ : ∃ y1, y1 = c1 + 256 * y2 := ⟨_, rfl⟩
  rw [← e3, ← e2, ← e1] at hy
  have d1 : y / 256 = y1 := by omega
  rw [d1] at hz
  have d2 : z / 65536 = y2 + y3 := by omega
  rw [d2] at hw
  have b3 : y3 < 2312 := by omega
  have b2 : y2 < 600000 := by omega
  have b1 : y1 < 160000000 := by omega
  have b0 : y < 41000000000 := by omega
  have d3 : w / 4294967296 = c4 := by
    have : w = (c0 + 256 * (c1 + 256 * (c2 + 256 * c3)) + y1 + y2 + y3) + 4294967296 * c4 := by omega
    omega
  rw [d3] at hv
  refine ⟨?_, by omega, by omega, by omega, by omega⟩
  have : v = (c0 + (c1 + (c2 + (c3 + c4)))) + 128 * (2 * (y1 + y2 + y3 + c4)) := by omega
  omega

def bj_s (x : Int64) (k : Int32) : Int64 := (Int64.toUInt64 x >>> ((Int32.toInt64 k).toUInt64 &&& Int64.toUInt64 63)).toInt64
def bj_1 (x : Int64) : Int64 := x - (bj_s x 1 &&& 6148914691236517205)
def bj_2 (x : Int64) : Int64 := (x &&& 3689348814741910323) + (bj_s x 2 &&& 3689348814741910323)
def bj_3 (x : Int64) : Int64 := (x + bj_s x 4) &&& 1085102592571150095
def bj_4 (x : Int64) : Int64 := x + bj_s x 8
def bj_5 (x : Int64) : Int64 := x + bj_s x 16
def bj_6 (x : Int64) : Int64 := x + bj_s x 32
theorem bj_eq (F nR : Nat) (φ : qm_F) (x : Int64) : ja_bitCount F nR φ x = some (Int64.toInt32 (bj_6 (bj_5 (bj_4 (bj_3 (bj_2 (bj_1 x)))))) &&& 127) := rfl
theorem bj_sh (x : Int64) (k : Int32) (n : Nat) (h : ((Int32.toInt64 k).toUInt64 &&& Int64.toUInt64 63).toNat = n) (h2 : n < 64) : bu (bj_s x k) = bu x / 2 ^ n := bu_shr x _ n h h2
theorem bj_fin (v : Int64) : (Int64.toInt32 v &&& 127) = Int32.ofNat (bu v % 128) := by
  apply Int32.toBitVec_inj.mp
  apply BitVec.eq_of_toNat_eq
  have e : (Int64.toInt32 v).toBitVec.toNat = bu v % 4294967296 := by
    rw [Int64.toBitVec_toInt32, BitVec.signExtend_eq_setWidth_of_le _ (by omega), BitVec.toNat_setWidth]
    rfl
  rw [Int32.toBitVec_and, BitVec.toNat_and, e, show (127 : Int32).toBitVec.toNat = 2 ^ 7 - 1 from rfl, Nat.and_two_pow_sub_one_eq_mod]
  show _ = (bu v % 128) % 4294967296
  omega
theorem bj_pop (F nR : Nat) (φ : qm_F) {x : Int64} (hx : bu x < 1099511627776) : ja_bitCount F nR φ x = some (Int32.ofNat (sp_cnt (fun j => (bu x).testBit j) 0 40)) := by
  obtain ⟨c0, c1, c2, c3, c4, h0, h1, h2, h3, h4, e, t⟩ := bc_5 hx
  have m1 : bu 6148914691236517205 = bc_m 85 8 := by decide +kernel
  have m2 : bu 3689348814741910323 = bc_m 51 8 := by decide +kernel
  have m3 : bu 1085102592571150095 = bc_m 15 8 := by decide +kernel
  have k1 : bu (bj_1 x) = bc_A 8 (bu x) := by
    unfold bj_1 bc_A
    have e1 : bu (bj_s x 1 &&& 6148914691236517205) = (bu x / 2 &&& bc_m 85 8) := by rw [bu_and, bj_sh x 1 1 (by decide) (by omega), m1]
    rw [bu_sub _ _ (by rw [e1]; exact Nat.le_trans Nat.and_le_left (Nat.div_le_self _ _)), e1]
  have l1 : bc_A 8 (bu x) < 1099511627776 := Nat.lt_of_le_of_lt (Nat.sub_le _ _) hx
  have k2 : bu (bj_2 (bj_1 x)) = bc_B 8 (bu x) := by
    unfold bj_2 bc_B
    have e1 : bu (bj_1 x &&& 3689348814741910323) = (bc_A 8 (bu x) &&& bc_m 51 8) := by rw [bu_and, k1, m2]
    have e2 : bu (bj_s (bj_1 x) 2 &&& 3689348814741910323) = (bc_A 8 (bu x) / 4 &&& bc_m 51 8) := by rw [bu_and, bj_sh _ 2 2 (by decide) (by omega), k1, m2]
    have a1 : (bc_A 8 (bu x) &&& bc_m 51 8) ≤ bc_A 8 (bu x) := Nat.and_le_left
    have a2 : (bc_A 8 (bu x) / 4 &&& bc_m 51 8) ≤ bc_A 8 (bu x) / 4 := Nat.and_le_left
    rw [bu_add _ _ (by rw [e1, e2]; omega), e1, e2]
  have l2 : bc_B 8 (bu x) < 2199023255552 := by
    have a1 : (bc_A 8 (bu x) &&& bc_m 51 8) ≤ bc_A 8 (bu x) := Nat.and_le_left
    have a2 : (bc_A 8 (bu x) / 4 &&& bc_m 51 8) ≤ bc_A 8 (bu x) / 4 := Nat.and_le_left
    unfold bc_B; omega
  have k3 : bu (bj_3 (bj_2 (bj_1 x))) = bc_C 8 (bu x) := by
    unfold bj_3 bc_C
    have e1 : bu (bj_s (bj_2 (bj_1 x)) 4) = bc_B 8 (bu x) / 16 := by rw [bj_sh _ 4 4 (by decide) (by omega), k2]
    rw [bu_and, bu_add _ _ (by rw [k2, e1]; omega), k2, e1, m3]
  obtain ⟨d1, d2, d3, d4, d5⟩ := bc_D h0 h1 h2 h3 h4 e rfl rfl rfl
  rw [bj_eq, bj_fin, t, ← d1]
  have k4 : bu (bj_4 (bj_3 (bj_2 (bj_1 x)))) = bc_C 8 (bu x) + bc_C 8 (bu x) / 256 := by
    unfold bj_4
    have e1 : bu (bj_s (bj_3 (bj_2 (bj_1 x))) 8) = bc_C 8 (bu x) / 256 := by rw [bj_sh _ 8 8 (by decide) (by omega), k3]
    rw [bu_add _ _ (by rw [k3, e1]; omega), k3, e1]
  generalize bj_4 (bj_3 (bj_2 (bj_1 x))) = y4 at *
  generalize bc_C 8 (bu x) + bc_C 8 (bu x) / 256 = n4 at *
  have k5 : bu (bj_5 y4) = n4 + n4 / 65536 := by
    unfold bj_5
    have e1 : bu (bj_s y4 16) = n4 / 65536 := by rw [bj_sh _ 16 16 (by decide) (by omega), k4]
    rw [bu_add _ _ (by rw [k4, e1]; omega), k4, e1]
  generalize bj_5 y4 = y5 at *
  generalize n4 + n4 / 65536 = n5 at *
  have k6 : bu (bj_6 y5) = n5 + n5 / 4294967296 := by
    unfold bj_6
    have e1 : bu (bj_s y5 32) = n5 / 4294967296 := by rw [bj_sh _ 32 32 (by decide) (by omega), k5]
    rw [bu_add _ _ (by rw [k5, e1]; omega), k5, e1]
  rw [k6]
