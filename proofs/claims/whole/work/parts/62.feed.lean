/-! feed: both answer alike -/
theorem qt_T.thrown {φ ψ : qm_F} {n : Nat} (h : qt_T φ ψ n) : qt_T φ (qm_u ψ 0 0 0) n := ⟨h.1, h.2.1, h.2.2⟩
theorem qt_F.rfl' (φ ψ : qm_F) : qt_F φ φ ψ ψ := ⟨fun _ _ _ _ => rfl, fun _ _ => rfl, fun _ _ _ _ => rfl, fun _ _ => rfl⟩
theorem qt_feed {F nR n : Nat} {φ ψ : qm_F} (h : qt_T φ ψ n) (hn : n ≤ 800) (x1 x2 x3 x4 x5 : Int32) : ∃ (v : Int32) (φ' ψ' : qm_F) (n' : Nat), sf_feed (F + 5) nR φ x1 x2 x3 x4 x5 = some (v, φ') ∧ mo_feed (F + 5) ψ x1 x2 x3 x4 x5 = some (v, ψ') ∧ qt_T φ' ψ' n' ∧ n' ≤ 800 ∧ qt_F φ φ' (qm_u ψ 0 0 0) ψ' := by
  have e20 : Int32.ofNat n + 20 = Int32.ofNat (n + 20) := by rw [Int32.ofNat_add]; rfl
  have hc : (Int32.ofNat n + 20 ≤ 800) ↔ n + 20 ≤ 800 := by
    rw [e20]
    exact Int32.ofNat_le_iff_le (b := 800) (by omega) (by decide)
  by_cases q : n + 20 ≤ 800
  · obtain ⟨φ1, ψ1, a1, b1, t1, f1⟩ := qt_put (F := F) (nR := nR) h.thrown (by omega) x1
    obtain ⟨φ2, ψ2, a2, b2, t2, f2⟩ := qt_put (F := F) (nR := nR) t1 (by omega) x2
    obtain ⟨φ3, ψ3, a3, b3, t3, f3⟩ := qt_put (F := F) (nR := nR) t2 (by omega) x3
    obtain ⟨φ4, ψ4, a4, b4, t4, f4⟩ := qt_put (F := F) (nR := nR) t3 (by omega) x4
    obtain ⟨φ5, ψ5, a5, b5, t5, f5⟩ := qt_put (F := F) (nR := nR) t4 (by omega) x5
    refine ⟨φ5 1 1, φ5, ψ5, n + 4 + 4 + 4 + 4 + 4, ?_, ?_, t5, by omega, (((f1.trans f2).trans f3).trans f4).trans f5⟩
    · unfold sf_feed ta_size
      simp only [qb1]
      rw [h.1, if_pos (hc.mpr q), a1]
      simp only [qb1]
      rw [a2]
      simp only [qb1]
      rw [a3]
      simp only [qb1]
      rw [a4]
      simp only [qb1]
      rw [a5]
    · unfold mo_feed
      rw [h.2.1, if_pos (hc.mpr q), b1]
      simp only [qb1]
      rw [b2]
      simp only [qb1]
      rw [b3]
      simp only [qb1]
      rw [b4]
      simp only [qb1]
      rw [b5]
      simp only [t5.1, t5.2.1]
  · refine ⟨-1, φ, qm_u ψ 0 0 0, n, ?_, ?_, h.thrown, hn, qt_F.rfl' _ _⟩
    · unfold sf_feed ta_size
      simp only [qb1]
      rw [h.1, if_neg (fun z => q (hc.mp z))]
    · unfold mo_feed
      rw [h.2.1, if_neg (fun z => q (hc.mp z))]
