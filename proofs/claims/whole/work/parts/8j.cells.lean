/-! SEMANTICS: the new search's cells -/
section S26
variable {nR nS gg : Nat} {φ5 : qm_F}
def sk_s (a : Nat) : Nat := if a = 3 then 25 else if a < 25 then a else a + 1
theorem sk_lo0 (a j : Nat) (h : 4 ≤ a) (h2 : a ≤ 24) : sk_f7_0 nR φ5 a j = φ5 a j := by
  unfold sk_f7_0 sk_f6_0 sk_f5_0
  simp only [qm_z, qm_u, qm_ff, show ¬ a = 3 by omega, show ¬ a = 25 by omega, show ¬ a = 26 by omega, show ¬ a = 27 by omega, show ¬ a = 28 by omega, show ¬ a = 29 by omega, show ¬ a = 30 by omega, show ¬ a = 31 by omega, show ¬ a = 32 by omega, show ¬ a = 33 by omega, if_false]
theorem sk_X0 (h : φ5 1 1 = 0) : sk_X nR gg φ5 (sk_f7_0 nR φ5) := by
  refine ⟨sk_lo0, ?_, ?_, ?_, ?_, fun j hj => ?_, ?_, ?_, ?_, ?_, fun k hk => ?_⟩ <;> unfold sk_f7_0 sk_f6_0 sk_f5_0
  · simp [qm_z, qm_u, qm_ff, h]
  · simp [qm_z, qm_u, qm_ff]
  · simp [qm_z, qm_u, qm_ff]
  · simp [qm_z, qm_u, qm_ff]
  · simp [qm_z, qm_u, qm_ff, hj]
  · simp [qm_z, qm_u, qm_ff]
  · simp [qm_z, qm_u, qm_ff]
  · simp [qm_z, qm_u, qm_ff]
  · simp [qm_z, qm_u, qm_ff]
  · simp [qm_z, qm_u, qm_ff, hk]
theorem sk_lo1 (a j : Nat) (h : a ≤ 24) : sk_f7_1 nS φ5 a j = φ5 a j := by
  unfold sk_f7_1 sk_f6_1 sk_f5_1
  simp only [qm_z, qm_u, qm_ff, show ¬ a = 25 by omega, show ¬ a = 26 by omega, show ¬ a = 27 by omega, show ¬ a = 28 by omega, show ¬ a = 29 by omega, show ¬ a = 30 by omega, show ¬ a = 31 by omega, show ¬ a = 32 by omega, show ¬ a = 33 by omega, show ¬ a = 34 by omega, if_false]
theorem sk_X1 (h : φ5 1 1 = 0) : sk_X nS gg φ5 (fun a j => sk_f7_1 nS φ5 (sk_s a) j) := by
  refine ⟨fun a j x y => ?_, ?_, ?_, ?_, ?_, fun j hj => ?_, ?_, ?_, ?_, ?_, fun k hk => ?_⟩
  · show sk_f7_1 nS φ5 (sk_s a) j = _
    rw [show sk_s a = a by unfold sk_s; rw [if_neg (by omega), if_pos (by omega)]]
    exact sk_lo1 a j y
  · show sk_f7_1 nS φ5 1 1 = 0
    rw [sk_lo1 1 1 (by omega)]; exact h
  · show sk_f7_1 nS φ5 27 1 = _
    unfold sk_f7_1 sk_f6_1 sk_f5_1; simp [qm_z, qm_u, qm_ff]
  · show sk_f7_1 nS φ5 26 1 = _
    unfold sk_f7_1 sk_f6_1 sk_f5_1; simp [qm_z, qm_u, qm_ff]
  · show sk_f7_1 nS φ5 26 3 = _
    unfold sk_f7_1 sk_f6_1 sk_f5_1; simp [qm_z, qm_u, qm_ff]
  · show sk_f7_1 nS φ5 25 j = _
    unfold sk_f7_1 sk_f6_1 sk_f5_1; simp [qm_z, qm_u, qm_ff, hj]
  · show sk_f7_1 nS φ5 31 5 = _
    unfold sk_f7_1 sk_f6_1 sk_f5_1; simp [qm_z, qm_u, qm_ff]
  · show sk_f7_1 nS φ5 31 6 = _
    unfold sk_f7_1 sk_f6_1 sk_f5_1; simp [qm_z, qm_u, qm_ff]
  · show sk_f7_1 nS φ5 31 7 = _
    unfold sk_f7_1 sk_f6_1 sk_f5_1; simp [qm_z, qm_u, qm_ff]
  · show sk_f7_1 nS φ5 31 8 = _
    unfold sk_f7_1 sk_f6_1 sk_f5_1; simp [qm_z, qm_u, qm_ff]
  · show sk_f7_1 nS φ5 32 k = _
    unfold sk_f7_1 sk_f6_1 sk_f5_1; simp [qm_z, qm_u, qm_ff, hk]
end S26
