/-! the tape: one int put -/
theorem qt_in {n : Nat} (hn : n < 800) : qm_in (Int32.ofNat n) 800 = true := by
  have := qj_in (k := n) (N := 800) (by decide) hn
  unfold vp_in at this
  unfold qm_in
  simp only [Bool.and_eq_true, Bool.not_eq_true', decide_eq_false_iff_not, decide_eq_true_eq]
  exact ⟨fun z => this (Or.inl z), Nat.lt_of_not_le (fun z => this (Or.inr z))⟩
theorem qt_ta {F nR m n : Nat} {φ : qm_F} {x k : Int32} (h1 : φ 1 1 = Int32.ofNat n) (hn : n < 800) (hk : ¬ k < 0) : ta_put_L3 F nR (m + 1) φ x k = ta_put_L3 F nR m (qm_u (qm_u φ 2 n (((Int32.toUInt32 x >>> (Int32.toUInt32 k &&& Int32.toUInt32 31)).toInt32) &&& 255)) 1 1 (Int32.ofNat n + 1)) x (k + (-8)) := by
  have h8 : ¬ (800 : Int32) ≤ Int32.ofNat n := by
    have : ¬ Int32.ofNat 800 ≤ Int32.ofNat n := qj_ix_nle (by decide) hn
    exact this
  conv => lhs; unfold ta_put_L3
  rw [if_neg hk, h1, if_neg h8, qt_in hn, qj_nn (by omega)]
  rfl
theorem qt_mo {F m n : Nat} {ψ : qm_F} {x k : Int32} (h1 : ψ 0 2 = Int32.ofNat n) (hn : n < 800) (hk : ¬ k < 0) : mo_puts_L3 F (m + 1) ψ x k = mo_puts_L3 F m (qm_u (qm_u ψ 1 n (qm_by (qm_by (x >>> (k &&& 31))))) 0 2 (Int32.ofNat n + 1)) x (k + (-8)) := by
  conv => lhs; unfold mo_puts_L3
  rw [if_neg hk, h1, qt_in hn, qj_nn (by omega)]
  rfl
/-- nothing else changes -/
def qt_F (φ φ' ψ ψ' : qm_F) : Prop := (∀ a j, a ≠ 1 → a ≠ 2 → φ' a j = φ a j) ∧ (∀ j, j ≠ 1 → φ' 1 j = φ 1 j) ∧ (∀ a j, a ≠ 0 → a ≠ 1 → ψ' a j = ψ a j) ∧ (∀ j, j ≠ 2 → ψ' 0 j = ψ 0 j)
theorem qt_F.trans {φ φ' φ'' ψ ψ' ψ'' : qm_F} (h : qt_F φ φ' ψ ψ') (h' : qt_F φ' φ'' ψ' ψ'') : qt_F φ φ'' ψ ψ'' :=
  ⟨fun a j x y => (h'.1 a j x y).trans (h.1 a j x y), fun j x => (h'.2.1 j x).trans (h.2.1 j x), fun a j x y => (h'.2.2.1 a j x y).trans (h.2.2.1 a j x y), fun j x => (h'.2.2.2 j x).trans (h.2.2.2 j x)⟩
theorem qt_one {F F2 nR m n : Nat} {φ ψ : qm_F} {x k : Int32} (h : qt_T φ ψ n) (hn : n < 800) (hk : ¬ k < 0) (hb : ((Int32.toUInt32 x >>> (Int32.toUInt32 k &&& Int32.toUInt32 31)).toInt32) &&& 255 = qm_by (qm_by (x >>> (k &&& 31))) &&& 255) :
    ∃ φ' ψ', ta_put_L3 F nR (m + 1) φ x k = ta_put_L3 F nR m φ' x (k + (-8)) ∧ mo_puts_L3 F2 (m + 1) ψ x k = mo_puts_L3 F2 m ψ' x (k + (-8)) ∧ qt_T φ' ψ' (n + 1) ∧ qt_F φ φ' ψ ψ' := by
  refine ⟨_, _, qt_ta h.1 hn hk, qt_mo h.2.1 hn hk, h.step hb, ?_, ?_, ?_, ?_⟩
  · intro a j h1 h2; simp [qm_u, h1, h2]
  · intro j h1; simp [qm_u, h1]
  · intro a j h1 h2; simp [qm_u, h1, h2]
  · intro j h1; simp [qm_u, h1]
theorem qt_put {F nR n : Nat} {φ ψ : qm_F} (h : qt_T φ ψ n) (hn : n + 4 ≤ 800) (x : Int32) : ∃ φ' ψ', ta_put (F + 5) nR φ x = some φ' ∧ mo_puts (F + 5) ψ x = some ψ' ∧ qt_T φ' ψ' (n + 4) ∧ qt_F φ φ' ψ ψ' := by
  obtain ⟨φ1, ψ1, a1, b1, t1, f1⟩ := qt_one (F := F + 5) (F2 := F + 5) (nR := nR) (m := F + 4) (k := 24) h (by omega) (by decide) (qt_24 x)
  obtain ⟨φ2, ψ2, a2, b2, t2, f2⟩ := qt_one (F := F + 5) (F2 := F + 5) (nR := nR) (m := F + 3) (k := 16) t1 (by omega) (by decide) (qt_16 x)
  obtain ⟨φ3, ψ3, a3, b3, t3, f3⟩ := qt_one (F := F + 5) (F2 := F + 5) (nR := nR) (m := F + 2) (k := 8) t2 (by omega) (by decide) (qt_8 x)
  obtain ⟨φ4, ψ4, a4, b4, t4, f4⟩ := qt_one (F := F + 5) (F2 := F + 5) (nR := nR) (m := F + 1) (k := 0) t3 (by omega) (by decide) (qt_0 x)
  have k1 : (24 : Int32) + (-8) = 16 := by decide
  have k2 : (16 : Int32) + (-8) = 8 := by decide
  have k3 : (8 : Int32) + (-8) = 0 := by decide
  have k4 : (0 : Int32) + (-8) = -8 := by decide
  rw [k1] at a1 b1
  rw [k2] at a2 b2
  rw [k3] at a3 b3
  rw [k4] at a4 b4
  refine ⟨φ4, ψ4, ?_, ?_, t4, ((f1.trans f2).trans f3).trans f4⟩
  · unfold ta_put
    rw [a1, a2, a3, a4]
    unfold ta_put_L3
    rw [if_pos (by decide)]
  · unfold mo_puts
    rw [b1, b2, b3, b4]
    unfold mo_puts_L3
    rw [if_pos (by decide)]
