/-! the tape: one int put -/
theorem qt_in {n : Nat} (hn : n < 800) : qm_in (Int32.ofNat n) 800 = true := by
  have := qj_in (k := n) (N := 800) (by decide) hn
  unfold vp_in at this
  unfold qm_in
  simp only [Bool.and_eq_true, Bool.not_eq_true', decide_eq_false_iff_not, decide_eq_true_eq]
  exact ⟨fun z => this (Or.inl z), Nat.lt_of_not_le (fun z => this (Or.inr z))⟩
theorem qt_ta {F nR m n : Nat} {φ : qm_F} {x k : Int32} (h1 : φ 1 1 = Int32.ofNat n) (hn : n < 800) (hk : ¬ k < 0) : ta_put_L3 F nR (m + 1) φ x k = ta_put_L3 F nR m (qm_u (qm_u φ 2 n (((Int32.toUInt32 x >>> (Int32.toUInt32 k &&& Int32.toUInt32 31)).toInt32) &&& 255)) 1 1 (Int32.ofNat n + 1)) x (k + (-8)) := by
  have h8 : ¬ (800 : Int32) ≤ Int32.ofNat n := by
    have : ¬ Int32.ofNat 800 ≤ Int32.ofNat n := qj_ix_nle (by decide) hn
    exact this
  conv => lhs; unfold ta_put_L3
  rw [if_neg hk, h1, if_neg h8, qt_in hn, qj_nn (by omega)]
  rfl
theorem qt_mo {F m n : Nat} {ψ : qm_F} {x k : Int32} (h1 : ψ 0 2 = Int32.ofNat n) (hn : n < 800) (hk : ¬ k < 0) : mo_puts_L3 F (m + 1) ψ x k = mo_puts_L3 F m (qm_u (qm_u ψ 1 n (qm_by (qm_by (x >>> (k &&& 31))))) 0 2 (Int32.ofNat n + 1)) x (k + (-8)) := by
  conv => lhs; unfold mo_puts_L3
  rw [if_neg hk, h1, qt_in hn, qj_nn (by omega)]
  rfl
