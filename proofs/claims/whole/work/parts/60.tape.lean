/-! SEMANTICS, 1: the tape -/
theorem qt_bv (x : BitVec 32) (s : Nat) (hs : s ≤ 24) : (x >>> s) &&& 255#32 = ((x.sshiftRight s).signExtend 8).signExtend 32 &&& 255#32 := by
  apply BitVec.eq_of_getLsbD_eq
  intro i hi
  rw [BitVec.getLsbD_and, BitVec.getLsbD_and]
  by_cases h8 : i < 8
  · rw [BitVec.getLsbD_signExtend, BitVec.getLsbD_signExtend]
    simp only [BitVec.getLsbD_ushiftRight, BitVec.getLsbD_sshiftRight, hi, h8]
    have : s + i < 32 := by omega
    have h3 : ¬ 32 ≤ i := by omega
    simp [this, h3]
  · have : (255#32).getLsbD i = false := by
      have h : ∀ i, i < 32 → ¬ i < 8 → (255#32).getLsbD i = false := by decide
      exact h i hi h8
    rw [this, Bool.and_false, Bool.and_false]
theorem qt_byby (x : Int32) : qm_by (qm_by x) = qm_by x := by
  unfold qm_by
  simp
theorem qt_sh (x k : Int32) (s : Nat) (hs : s ≤ 24) (h1 : (Int32.toUInt32 k &&& Int32.toUInt32 31).toBitVec % 32#32 = BitVec.ofNat 32 s) (h2 : (k &&& 31).toBitVec.smod 32#32 = BitVec.ofNat 32 s) : ((Int32.toUInt32 x >>> (Int32.toUInt32 k &&& Int32.toUInt32 31)).toInt32) &&& 255 = qm_by (qm_by (x >>> (k &&& 31))) &&& 255 := by
  rw [qt_byby]
  apply Int32.toBitVec_inj.mp
  rw [Int32.toBitVec_and, Int32.toBitVec_and]
  unfold qm_by
  rw [Int8.toBitVec_toInt32, Int32.toBitVec_toInt8, Int32.toBitVec_shiftRight]
  have e1 : (x.toUInt32 >>> (Int32.toUInt32 k &&& Int32.toUInt32 31)).toInt32.toBitVec = x.toBitVec >>> s := by
    show (x.toUInt32 >>> (Int32.toUInt32 k &&& Int32.toUInt32 31)).toBitVec = _
    rw [UInt32.toBitVec_shiftRight]
    show x.toBitVec >>> ((Int32.toUInt32 k &&& Int32.toUInt32 31).toBitVec % 32#32) = _
    rw [h1]
    show x.toBitVec >>> (BitVec.ofNat 32 s).toNat = _
    rw [BitVec.toNat_ofNat, Nat.mod_eq_of_lt (by omega)]
  have e2 : x.toBitVec.sshiftRight' ((k &&& 31).toBitVec.smod 32) = x.toBitVec.sshiftRight s := by
    show x.toBitVec.sshiftRight' ((k &&& 31).toBitVec.smod 32#32) = _
    rw [h2]
    show x.toBitVec.sshiftRight (BitVec.ofNat 32 s).toNat = _
    rw [BitVec.toNat_ofNat, Nat.mod_eq_of_lt (by omega)]
  rw [e1, e2]
  exact qt_bv x.toBitVec s hs
theorem qt_24 (x : Int32) : ((Int32.toUInt32 x >>> (Int32.toUInt32 24 &&& Int32.toUInt32 31)).toInt32) &&& 255 = qm_by (qm_by (x >>> ((24 : Int32) &&& 31))) &&& 255 := qt_sh x 24 24 (by omega) (by decide) (by decide)
theorem qt_16 (x : Int32) : ((Int32.toUInt32 x >>> (Int32.toUInt32 16 &&& Int32.toUInt32 31)).toInt32) &&& 255 = qm_by (qm_by (x >>> ((16 : Int32) &&& 31))) &&& 255 := qt_sh x 16 16 (by omega) (by decide) (by decide)
theorem qt_8 (x : Int32) : ((Int32.toUInt32 x >>> (Int32.toUInt32 8 &&& Int32.toUInt32 31)).toInt32) &&& 255 = qm_by (qm_by (x >>> ((8 : Int32) &&& 31))) &&& 255 := qt_sh x 8 8 (by omega) (by decide) (by decide)
theorem qt_0 (x : Int32) : ((Int32.toUInt32 x >>> (Int32.toUInt32 0 &&& Int32.toUInt32 31)).toInt32) &&& 255 = qm_by (qm_by (x >>> ((0 : Int32) &&& 31))) &&& 255 := qt_sh x 0 0 (by omega) (by decide) (by decide)
/-- n bytes are fed: the component keeps them as 0..255, the reference as bytes -/
def qt_T (φ ψ : qm_F) (n : Nat) : Prop := φ 1 1 = Int32.ofNat n ∧ ψ 0 2 = Int32.ofNat n ∧ ∀ j, j < n → φ 2 j = ψ 1 j &&& 255
theorem qt_T.step {φ ψ : qm_F} {n : Nat} {a b : Int32} (h : qt_T φ ψ n) (hab : a = b &&& 255) : qt_T (qm_u (qm_u φ 2 n a) 1 1 (Int32.ofNat n + 1)) (qm_u (qm_u ψ 1 n b) 0 2 (Int32.ofNat n + 1)) (n + 1) := by
  obtain ⟨h1, h2, h3⟩ := h
  have e : Int32.ofNat n + 1 = Int32.ofNat (n + 1) := by rw [Int32.ofNat_add]; rfl
  rw [e]
  refine ⟨rfl, rfl, fun j hj => ?_⟩
  by_cases q : j = n
  · subst q; simp [qm_u, hab]
  · have := h3 j (by omega)
    simp [qm_u, q, this]
