/-! SEMANTICS: runs, single statements' steps on both sides -/
def rn_fx (φ0 φ : qm_F) : Prop := ∀ a j, ¬ (a = 26 ∧ (j = 5 ∨ j = 6 ∨ j = 8 ∨ j = 9)) → ¬ (a = 27 ∨ a = 28 ∨ a = 29) → φ a j = φ0 a j
def rn_fm (ψ0 ψ : qm_F) : Prop := ∀ a j, ¬ (a = 0 ∧ 36 ≤ j ∧ j ≤ 38) → ¬ (a = 17 ∨ a = 18) → ψ a j = ψ0 a j
/-- both run on, at p, k steps begun, w values on the component's stack -/
def rn_S (φ0 ψ0 : qm_F) (p k w : Nat) (φ ψ : qm_F) : Prop :=
  rn_fx φ0 φ ∧ rn_fm ψ0 ψ ∧ φ 26 5 = Int32.ofNat w ∧ φ 26 6 = Int32.ofNat p ∧ φ 26 9 = -1 ∧ ψ 0 38 = -1 ∧ φ 26 8 = Int32.ofNat k ∧ ψ 0 37 = Int32.ofNat k ∧ k ≤ 120 ∧ (∀ j, j < 15 → φ 27 j = ψ 17 j)
/-- both have stopped with v -/
def rn_X (φ0 ψ0 : qm_F) (v : Int32) (k : Nat) (φ ψ : qm_F) : Prop :=
  rn_fx φ0 φ ∧ rn_fm ψ0 ψ ∧ φ 26 9 = v ∧ ψ 0 38 = v ∧ (v = 2 ∨ v = 3 ∨ v = 4 ∨ v = 5) ∧ φ 26 8 = Int32.ofNat k ∧ ψ 0 37 = Int32.ofNat k ∧ k ≤ 120
section R2
variable {F nR nN nT gg : Nat} {φ0 ψ0 φ ψ : qm_F} {sz M p k : Nat}
theorem rx_g.fx {φ φ' : qm_F} (h : rx_g φ φ') (h0 : rn_fx φ0 φ) : rn_fx φ0 φ' := fun a j x y => by rw [h a j (by omega) (by omega)]; exact h0 a j x y
theorem rr_f.fm {ψ ψ' : qm_F} (h : rr_f ψ ψ') (h0 : rn_fm ψ0 ψ) : rn_fm ψ0 ψ' := fun a j x y => by rw [h a j (by omega) (by omega)]; exact h0 a j x y
theorem rn_fx.u (h : rn_fx φ0 φ) (a j : Nat) (v : Int32) (ha : (a = 26 ∧ (j = 5 ∨ j = 6 ∨ j = 8 ∨ j = 9)) ∨ a = 27 ∨ a = 28 ∨ a = 29) : rn_fx φ0 (qm_u φ a j v) := by
  intro b i x y
  rw [← h b i x y]
  unfold qm_u
  repeat' split
  all_goals first | rfl | omega
theorem rn_fm.u (h : rn_fm ψ0 ψ) (a j : Nat) (v : Int32) (ha : (a = 0 ∧ 36 ≤ j ∧ j ≤ 38) ∨ a = 17 ∨ a = 18) : rn_fm ψ0 (qm_u ψ a j v) := by
  intro b i x y
  rw [← h b i x y]
  unfold qm_u
  repeat' split
  all_goals first | rfl | omega
/-- STEP -/
theorem rn_step (hz : φ0 14 13 = Int32.ofNat sz) (hT : sz ≤ nT) (hT2 : sz ≤ 801) (h : rn_S φ0 ψ0 p k 0 φ ψ) (hop : φ0 20 p = 6) (hp : p < sz) : ∃ φ' ψ', rx_MV F nR nN nT gg 1 φ φ' ∧ mo_step F ψ = some ψ' ∧ (∀ j, φ' 28 j = φ 28 j) ∧ ((k < 120 ∧ rn_S φ0 ψ0 (p + 1) (k + 1) 0 φ' ψ') ∨ (k = 120 ∧ rn_X φ0 ψ0 5 k φ' ψ')) := by
  obtain ⟨a1, a2, a3, a4, a5, a6, a7, a8, a9, a10⟩ := h
  have eop : φ 20 p = 6 := by rw [a1 20 p (by omega) (by omega)]; exact hop
  have ez : φ 14 13 = Int32.ofNat sz := by rw [a1 14 13 (by omega) (by omega)]; exact hz
  have hpf : ma_perform F nR nN nT gg (qm_u φ 26 6 (Int32.ofNat (p + 1))) (φ 20 p) (φ 21 p) (φ 22 p) = qb1 (ma_beginStep F nR nN nT gg (qm_u φ 26 6 (Int32.ofNat (p + 1)))) fun φ8 => some φ8 := by
    rw [eop]
    unfold ma_perform
    rw [if_neg (by decide), if_neg (by decide), if_neg (by decide), if_neg (by decide), if_neg (by decide), if_pos (by decide)]
  have e8 : (qm_u φ 26 6 (Int32.ofNat (p + 1))) 26 8 = Int32.ofNat k := a7
  by_cases q : k < 120
  · have hb : ma_beginStep F nR nN nT gg (qm_u φ 26 6 (Int32.ofNat (p + 1))) = some (qm_u (qm_u φ 26 6 (Int32.ofNat (p + 1))) 26 8 (Int32.ofNat (k + 1))) := by
      unfold ma_beginStep
      rw [e8, if_pos (by rw [show (120 : Int32) = Int32.ofNat 120 from rfl, ya_lt (by omega) (by omega)]; exact q), ya_add1]
    have hs : mo_step F ψ = some (qm_u ψ 0 37 (Int32.ofNat (k + 1))) := by
      unfold mo_step
      rw [a8, if_pos (by rw [show (120 : Int32) = Int32.ofNat 120 from rfl, ya_eq (by omega) (by omega)]; omega), ya_add1]
    refine ⟨qm_u (qm_u φ 26 6 (Int32.ofNat (p + 1))) 26 8 (Int32.ofNat (k + 1)), _, rx_mv1 a5 a4 ez hp hT hT2 (by rw [hpf, hb]; rfl), hs, fun _ => rfl, Or.inl ⟨q, (a1.u 26 6 _ (by omega)).u 26 8 _ (by omega), a2.u 0 37 _ (by omega), a3, rfl, a5, a6, rfl, rfl, by omega, a10⟩⟩
  · have hb : ma_beginStep F nR nN nT gg (qm_u φ 26 6 (Int32.ofNat (p + 1))) = some (qm_u (qm_u φ 26 6 (Int32.ofNat (p + 1))) 26 9 5) := by
      unfold ma_beginStep
      rw [e8, if_neg (by rw [show (120 : Int32) = Int32.ofNat 120 from rfl, ya_lt (by omega) (by omega)]; exact q)]
    have hs : mo_step F ψ = some (qm_u ψ 0 38 5) := by
      unfold mo_step
      rw [a8, if_neg (by rw [show (120 : Int32) = Int32.ofNat 120 from rfl, ya_eq (by omega) (by omega)]; omega)]
    exact ⟨qm_u (qm_u φ 26 6 (Int32.ofNat (p + 1))) 26 9 5, _, rx_mv1 a5 a4 ez hp hT hT2 (by rw [hpf, hb]; rfl), hs, fun _ => rfl, Or.inr ⟨by omega, (a1.u 26 6 _ (by omega)).u 26 9 _ (by omega), a2.u 0 38 _ (by omega), rfl, rfl, by simp, a7, a8, a9⟩⟩
/-- E -/
theorem rn_ex (hF : 4000 ≤ F) (hz : φ0 14 13 = Int32.ofNat sz) (hT : sz ≤ nT) (hT2 : sz ≤ 801) (hM : M ≤ 800) (hmk : φ0 26 1 = (1 <<< ((ψ0 2 0) &&& 31)) - 1) {u v : Int32} {r : Nat} (hE : yl_E (rn_Z φ0 ψ0) M u v p r) (hr : r ≤ sz) (h : rn_S φ0 ψ0 p k 0 φ ψ) :
    (∃ x φ' ψ', rx_MV F nR nN nT gg (r - p) φ φ' ∧ mo_worked F ψ u v = some (x, ψ') ∧ rn_S φ0 ψ0 r k 1 φ' ψ' ∧ φ' 29 0 = x ∧ (∀ j, φ' 28 j = φ 28 j)) ∨
    (∃ mv φ' ψ', mv ≤ r - p ∧ rx_MV F nR nN nT gg mv φ φ' ∧ mo_worked F ψ u v = some (0, ψ') ∧ rn_X φ0 ψ0 3 k φ' ψ') := by
  obtain ⟨a1, a2, a3, a4, a5, a6, a7, a8, a9, a10⟩ := h
  have hE' : yl_E (rn_Z φ ψ) M u v p r := by
    refine hE.cg (Nat.le_refl _) (fun i _ => ⟨?_, ?_⟩) (fun i _ _ => ⟨?_, ?_⟩)
    · exact a2 7 i (by omega) (by omega)
    · exact a2 8 i (by omega) (by omega)
    · exact a1 20 i (by omega) (by omega)
    · exact a1 21 i (by omega) (by omega)
  have ez : φ 14 13 = Int32.ofNat sz := by rw [a1 14 13 (by omega) (by omega)]; exact hz
  have em : φ 26 1 = (1 <<< ((ψ 2 0) &&& 31)) - 1 := by rw [a1 26 1 (by omega) (by omega), a2 2 0 (by omega) (by omega)]; exact hmk
  rcases rn_E (nR := nR) (nN := nN) (nT := nT) (gg := gg) hF hT hT2 hM hE' hr em ez a10 a3 a4 a5 a6 with ⟨x, φ', ψ', r1, r2, r3, r4, r5, r6, r7, r8, r9⟩ | ⟨mv, φ', ψ', r1, r2, r3, r4, r5, r6, r7⟩
  · refine Or.inl ⟨x, φ', ψ', r1, r7, ⟨r6.fx a1, r9.fm a2, r2, r4, r5, r8, ?_, ?_, a9, fun j hj => ?_⟩, r3, fun j => r6 28 j (by omega) (by omega)⟩
    · rw [r6 26 8 (by omega) (by omega)]; exact a7
    · rw [r9 0 37 (by omega) (by omega)]; exact a8
    · rw [r6 27 j (by omega) (by omega), r9 17 j (by omega) (by omega)]; exact a10 j hj
  · refine Or.inr ⟨mv, φ', ψ', r1, r2, r5, r4.fx a1, r7.fm a2, r3, r6, by simp, ?_, ?_, a9⟩
    · rw [r4 26 8 (by omega) (by omega)]; exact a7
    · rw [r7 0 37 (by omega) (by omega)]; exact a8
/-- the value on the stack is taken -/
theorem rn_pop {x : Int32} (h : rn_S φ0 ψ0 p k 1 φ ψ) (hx : φ 29 0 = x) (p' : Nat) : ma_pop F nR nN nT gg (qm_u φ 26 6 (Int32.ofNat p')) = some (x, qm_u (qm_u φ 26 6 (Int32.ofNat p')) 26 5 0) ∧ rn_S φ0 ψ0 p' k 0 (qm_u (qm_u φ 26 6 (Int32.ofNat p')) 26 5 0) ψ := by
  obtain ⟨a1, a2, a3, a4, a5, a6, a7, a8, a9, a10⟩ := h
  have e := rx_pop (F := F) (nR := nR) (nN := nN) (nT := nT) (gg := gg) (φ := qm_u φ 26 6 (Int32.ofNat p')) (x := x) (r := []) a3 (by simp) ⟨hx, trivial⟩
  exact ⟨e, (a1.u 26 6 _ (by omega)).u 26 5 _ (by omega), a2, rfl, rfl, a5, a6, a7, a8, a9, a10⟩
theorem rn_mvp (hz : φ0 14 13 = Int32.ofNat sz) (hT : sz ≤ nT) (hT2 : sz ≤ 801) {w : Nat} (h : rn_S φ0 ψ0 p k w φ ψ) (hp : p < sz) {o a g : Int32} (ho : φ0 20 p = o) (ha : φ0 21 p = a) (hg : φ0 22 p = g) {φ' : qm_F} (e : ma_perform F nR nN nT gg (qm_u φ 26 6 (Int32.ofNat (p + 1))) o a g = some φ') : rx_MV F nR nN nT gg 1 φ φ' := by
  have e20 : φ 20 p = o := by rw [h.1 20 p (by omega) (by omega)]; exact ho
  have e21 : φ 21 p = a := by rw [h.1 21 p (by omega) (by omega)]; exact ha
  have e22 : φ 22 p = g := by rw [h.1 22 p (by omega) (by omega)]; exact hg
  have ez : φ 14 13 = Int32.ofNat sz := by rw [h.1 14 13 (by omega) (by omega)]; exact hz
  exact rx_mv1 h.2.2.2.2.1 h.2.2.2.1 ez hp hT hT2 (by rw [e20, e21, e22]; exact e)
/-- STORE -/
theorem rn_store (hz : φ0 14 13 = Int32.ofNat sz) (hT : sz ≤ nT) (hT2 : sz ≤ 801) {x : Int32} {kk : Nat} (h : rn_S φ0 ψ0 p k 1 φ ψ) (hx : φ 29 0 = x) (hp : p < sz) (ho : φ0 20 p = 3) (ha : φ0 21 p = Int32.ofNat kk) (hk : kk < 15) : ∃ φ', rx_MV F nR nN nT gg 1 φ φ' ∧ rn_S φ0 ψ0 (p + 1) k 0 φ' (qm_u ψ 17 kk x) ∧ (∀ j, φ' 28 j = φ 28 j) := by
  obtain ⟨e1, S1⟩ := rn_pop (F := F) (nR := nR) (nN := nN) (nT := nT) (gg := gg) h hx (p + 1)
  refine ⟨qm_u (qm_u (qm_u φ 26 6 (Int32.ofNat (p + 1))) 26 5 0) 27 kk x, rn_mvp hz hT hT2 h hp ho ha rfl ?_, ?_, fun _ => rfl⟩
  · unfold ma_perform ma_store
    rw [if_neg (by decide), if_neg (by decide), if_pos (by decide), e1]
    simp only [yb2]
    rw [if_neg (ya_lt0 (by omega)), if_neg (by rw [show (15 : Int32) = Int32.ofNat 15 from rfl, ya_le (by omega) (by omega)]; omega), ya_in (by omega) (by omega), ya_nn (by omega)]
    rfl
  · obtain ⟨a1, a2, a3, a4, a5, a6, a7, a8, a9, a10⟩ := S1
    refine ⟨a1.u 27 kk _ (by omega), a2.u 17 kk _ (by omega), a3, a4, a5, a6, a7, a8, a9, fun j hj => ?_⟩
    by_cases z : j = kk
    · subst z; simp [qm_u]
    · have := a10 j hj
      simp only [qm_u, z, if_false, if_true] at this ⊢
      exact this
/-- TEST_MUST -/
theorem rn_must (hz : φ0 14 13 = Int32.ofNat sz) (hT : sz ≤ nT) (hT2 : sz ≤ 801) {x : Int32} (h : rn_S φ0 ψ0 p k 1 φ ψ) (hx : φ 29 0 = x) (hp : p < sz) (ho : φ0 20 p = 13) : ∃ φ', rx_MV F nR nN nT gg 1 φ φ' ∧ (∀ j, φ' 28 j = φ 28 j) ∧ ((x ≠ 0 ∧ rn_S φ0 ψ0 (p + 1) k 0 φ' (qm_u ψ 0 38 (-1))) ∨ (x = 0 ∧ rn_X φ0 ψ0 2 k φ' (qm_u ψ 0 38 2))) := by
  obtain ⟨e1, S1⟩ := rn_pop (F := F) (nR := nR) (nN := nN) (nT := nT) (gg := gg) h hx (p + 1)
  have hpf : ma_perform F nR nN nT gg (qm_u φ 26 6 (Int32.ofNat (p + 1))) 13 (φ0 21 p) (φ0 22 p) = if ¬ x = 0 then some (qm_u (qm_u (qm_u φ 26 6 (Int32.ofNat (p + 1))) 26 5 0) 26 9 (-1)) else some (qm_u (qm_u (qm_u φ 26 6 (Int32.ofNat (p + 1))) 26 5 0) 26 9 2) := by
    unfold ma_perform
    rw [if_neg (by decide), if_neg (by decide), if_neg (by decide), if_neg (by decide), if_neg (by decide), if_neg (by decide), if_neg (by decide), if_neg (by decide), if_neg (by decide), if_neg (by decide), if_neg (by decide), if_neg (by decide), if_pos (by decide), e1]
    rfl
  obtain ⟨a1, a2, a3, a4, a5, a6, a7, a8, a9, a10⟩ := S1
  by_cases q : x = 0
  · rw [if_neg (by simp [q])] at hpf
    exact ⟨_, rn_mvp hz hT hT2 h hp ho rfl rfl hpf, fun _ => rfl, Or.inr ⟨q, a1.u 26 9 _ (by omega), a2.u 0 38 _ (by omega), rfl, rfl, by simp, a7, a8, a9⟩⟩
  · rw [if_pos q] at hpf
    exact ⟨_, rn_mvp hz hT hT2 h hp ho rfl rfl hpf, fun _ => rfl, Or.inl ⟨q, a1.u 26 9 _ (by omega), a2.u 0 38 _ (by omega), a3, a4, rfl, rfl, a7, a8, a9, a10⟩⟩
/-- JUMP_IF_ZERO -/
theorem rn_jiz (hz : φ0 14 13 = Int32.ofNat sz) (hT : sz ≤ nT) (hT2 : sz ≤ 801) {x : Int32} {tg : Nat} (h : rn_S φ0 ψ0 p k 1 φ ψ) (hx : φ 29 0 = x) (hp : p < sz) (ho : φ0 20 p = 8) (hg : φ0 22 p = Int32.ofNat tg) : ∃ φ', rx_MV F nR nN nT gg 1 φ φ' ∧ (∀ j, φ' 28 j = φ 28 j) ∧ rn_S φ0 ψ0 (if x = 0 then tg else p + 1) k 0 φ' ψ := by
  obtain ⟨e1, S1⟩ := rn_pop (F := F) (nR := nR) (nN := nN) (nT := nT) (gg := gg) h hx (p + 1)
  have hpf : ma_perform F nR nN nT gg (qm_u φ 26 6 (Int32.ofNat (p + 1))) 8 (φ0 21 p) (Int32.ofNat tg) = if ¬ x = 0 then some (qm_u (qm_u (qm_u φ 26 6 (Int32.ofNat (p + 1))) 26 5 0) 26 6 (Int32.ofNat (p + 1))) else some (qm_u (qm_u (qm_u φ 26 6 (Int32.ofNat (p + 1))) 26 5 0) 26 6 (Int32.ofNat tg)) := by
    unfold ma_perform
    rw [if_neg (by decide), if_neg (by decide), if_neg (by decide), if_neg (by decide), if_neg (by decide), if_neg (by decide), if_neg (by decide), if_pos (by decide), e1]
    rfl
  obtain ⟨a1, a2, a3, a4, a5, a6, a7, a8, a9, a10⟩ := S1
  by_cases q : x = 0
  · rw [if_neg (by simp [q])] at hpf
    refine ⟨_, rn_mvp hz hT hT2 h hp ho rfl hg hpf, fun _ => rfl, ?_⟩
    rw [if_pos q]
    exact ⟨a1.u 26 6 _ (by omega), a2, a3, rfl, a5, a6, a7, a8, a9, a10⟩
  · rw [if_pos q] at hpf
    refine ⟨_, rn_mvp hz hT hT2 h hp ho rfl hg hpf, fun _ => rfl, ?_⟩
    rw [if_neg q]
    exact ⟨a1.u 26 6 _ (by omega), a2, a3, rfl, a5, a6, a7, a8, a9, a10⟩
/-- JUMP -/
theorem rn_jump (hz : φ0 14 13 = Int32.ofNat sz) (hT : sz ≤ nT) (hT2 : sz ≤ 801) {tg : Nat} (h : rn_S φ0 ψ0 p k 0 φ ψ) (hp : p < sz) (ho : φ0 20 p = 7) (hg : φ0 22 p = Int32.ofNat tg) : ∃ φ', rx_MV F nR nN nT gg 1 φ φ' ∧ (∀ j, φ' 28 j = φ 28 j) ∧ rn_S φ0 ψ0 tg k 0 φ' ψ := by
  refine ⟨qm_u (qm_u φ 26 6 (Int32.ofNat (p + 1))) 26 6 (Int32.ofNat tg), rn_mvp hz hT hT2 h hp ho rfl hg ?_, fun _ => rfl, ?_⟩
  · unfold ma_perform
    rw [if_neg (by decide), if_neg (by decide), if_neg (by decide), if_neg (by decide), if_neg (by decide), if_neg (by decide), if_pos (by decide)]
  · obtain ⟨a1, a2, a3, a4, a5, a6, a7, a8, a9, a10⟩ := h
    exact ⟨(a1.u 26 6 _ (by omega)).u 26 6 _ (by omega), a2, a3, rfl, a5, a6, a7, a8, a9, a10⟩
/-- LOOP_BEGIN, WHILE_BEGIN -/
theorem rn_begin (hz : φ0 14 13 = Int32.ofNat sz) (hT : sz ≤ nT) (hT2 : sz ≤ 801) {br times un w : Nat} (h : rn_S φ0 ψ0 p k 0 φ ψ) (hp : p < sz) (hb : br ≤ 3) (ha : φ0 21 p = Int32.ofNat br) (hg : φ0 22 p = Int32.ofNat times) (hun : φ0 26 7 = Int32.ofNat un) (hu9 : un ≤ 9) (ho : (φ0 20 p = 9 ∧ w = times) ∨ (φ0 20 p = 11 ∧ w = if un = 0 then times else un)) : ∃ φ', rx_MV F nR nN nT gg 1 φ φ' ∧ rn_S φ0 ψ0 (p + 1) k 0 φ' ψ ∧ φ' 28 br = Int32.ofNat w ∧ (∀ j, j ≠ br → φ' 28 j = φ 28 j) := by
  have hb' : ∀ (φ1 : qm_F) (x : Int32), ma_beginRounds F nR nN nT gg φ1 (Int32.ofNat br) x = some (qm_u φ1 28 br x) := by
    intro φ1 x
    unfold ma_beginRounds
    rw [if_neg (ya_lt0 (by omega)), if_neg (by rw [show (4 : Int32) = Int32.ofNat 4 from rfl, ya_le (by omega) (by omega)]; omega), ya_in (by omega) (by omega), ya_nn (by omega)]
    rfl
  have fin : rn_S φ0 ψ0 (p + 1) k 0 (qm_u (qm_u φ 26 6 (Int32.ofNat (p + 1))) 28 br (Int32.ofNat w)) ψ := by
    obtain ⟨a1, a2, a3, a4, a5, a6, a7, a8, a9, a10⟩ := h
    exact ⟨(a1.u 26 6 _ (by omega)).u 28 br _ (by omega), a2, a3, rfl, a5, a6, a7, a8, a9, a10⟩
  refine ⟨qm_u (qm_u φ 26 6 (Int32.ofNat (p + 1))) 28 br (Int32.ofNat w), ?_, fin, by simp [qm_u], fun j hj => by simp [qm_u, hj]⟩
  have hu : (qm_u φ 26 6 (Int32.ofNat (p + 1))) 26 7 = Int32.ofNat un := by
    show φ 26 7 = _
    rw [h.1 26 7 (by omega) (by omega)]; exact hun
  rcases ho with ⟨ho, hw⟩ | ⟨ho, hw⟩
  · refine rn_mvp hz hT hT2 h hp ho ha hg ?_
    unfold ma_perform
    rw [if_neg (by decide), if_neg (by decide), if_neg (by decide), if_neg (by decide), if_neg (by decide), if_neg (by decide), if_neg (by decide), if_neg (by decide), if_pos (by decide), hb', hw]
    rfl
  · refine rn_mvp hz hT hT2 h hp ho ha hg ?_
    unfold ma_perform ma_perform_L219
    rw [if_neg (by decide), if_neg (by decide), if_neg (by decide), if_neg (by decide), if_neg (by decide), if_neg (by decide), if_neg (by decide), if_neg (by decide), if_neg (by decide), if_neg (by decide), if_pos (by decide), hu, hb', hb', hw]
    by_cases q : un = 0
    · rw [if_neg (by rw [q]; decide), if_pos q]
      rfl
    · rw [if_pos (by rw [show (0 : Int32) = Int32.ofNat 0 from rfl, ya_eq (by omega) (by omega)]; exact q), if_neg q]
      rfl
/-- LOOP_AGAIN -/
theorem rn_again (hz : φ0 14 13 = Int32.ofNat sz) (hT : sz ≤ nT) (hT2 : sz ≤ 801) {br tg r : Nat} (h : rn_S φ0 ψ0 p k 0 φ ψ) (hp : p < sz) (hb : br ≤ 3) (ho : φ0 20 p = 10) (ha : φ0 21 p = Int32.ofNat br) (hg : φ0 22 p = Int32.ofNat tg) (hr : φ 28 br = Int32.ofNat (r + 1)) (hr9 : r ≤ 9) : ∃ φ', rx_MV F nR nN nT gg 1 φ φ' ∧ rn_S φ0 ψ0 (if r = 0 then p + 1 else tg) k 0 φ' ψ ∧ φ' 28 br = Int32.ofNat r ∧ (∀ j, j ≠ br → φ' 28 j = φ 28 j) := by
  have hr' : (qm_u φ 26 6 (Int32.ofNat (p + 1))) 28 br = Int32.ofNat (r + 1) := hr
  obtain ⟨φ1, e1⟩ : ∃ φ1, φ1 = qm_u (qm_u φ 26 6 (Int32.ofNat (p + 1))) 28 br (Int32.ofNat r) := ⟨_, rfl⟩
  have hgr : ma_goRoundAgain F nR nN nT gg (qm_u φ 26 6 (Int32.ofNat (p + 1))) (Int32.ofNat br) (Int32.ofNat tg) = if r = 0 then some φ1 else some (qm_u φ1 26 6 (Int32.ofNat tg)) := by
    unfold ma_goRoundAgain
    rw [if_neg (ya_lt0 (by omega)), if_pos (by rw [show (4 : Int32) = Int32.ofNat 4 from rfl, ya_lt (by omega) (by omega)]; omega), ya_in (by omega) (by omega), ya_nn (by omega), hr', ya_sub1 (by omega), Nat.add_sub_cancel, ← e1]
    simp only [yg1]
    have e2 : φ1 28 br = Int32.ofNat r := by rw [e1]; simp [qm_u]
    rw [e2]
    by_cases q : r = 0
    · rw [if_pos (by rw [q]; decide), if_pos q]
    · rw [if_neg (by rw [show (0 : Int32) = Int32.ofNat 0 from rfl, ya_le (by omega) (by omega)]; omega), if_neg q]
  have hpf : ma_perform F nR nN nT gg (qm_u φ 26 6 (Int32.ofNat (p + 1))) 10 (Int32.ofNat br) (Int32.ofNat tg) = if r = 0 then some φ1 else some (qm_u φ1 26 6 (Int32.ofNat tg)) := by
    unfold ma_perform
    rw [if_neg (by decide), if_neg (by decide), if_neg (by decide), if_neg (by decide), if_neg (by decide), if_neg (by decide), if_neg (by decide), if_neg (by decide), if_neg (by decide), if_pos (by decide), hgr]
    by_cases q : r = 0
    · rw [if_pos q]; rfl
    · rw [if_neg q]; rfl
  obtain ⟨a1, a2, a3, a4, a5, a6, a7, a8, a9, a10⟩ := h
  have h := (⟨a1, a2, a3, a4, a5, a6, a7, a8, a9, a10⟩ : rn_S φ0 ψ0 p k 0 φ ψ)
  by_cases q : r = 0
  · rw [if_pos q] at hpf ⊢
    refine ⟨φ1, rn_mvp hz hT hT2 h hp ho ha hg hpf, ?_, by rw [e1]; simp [qm_u], fun j hj => by rw [e1]; simp [qm_u, hj]⟩
    rw [e1]
    exact ⟨(a1.u 26 6 _ (by omega)).u 28 br _ (by omega), a2, a3, rfl, a5, a6, a7, a8, a9, a10⟩
  · rw [if_neg q] at hpf ⊢
    refine ⟨_, rn_mvp hz hT hT2 h hp ho ha hg hpf, ?_, by rw [e1]; simp [qm_u], fun j hj => by rw [e1]; simp [qm_u, hj]⟩
    rw [e1]
    exact ⟨((a1.u 26 6 _ (by omega)).u 28 br _ (by omega)).u 26 6 _ (by omega), a2, a3, rfl, a5, a6, a7, a8, a9, a10⟩
/-- WHILE_TEST -/
theorem rn_test (hz : φ0 14 13 = Int32.ofNat sz) (hT : sz ≤ nT) (hT2 : sz ≤ 801) {x : Int32} {br tg r : Nat} (h : rn_S φ0 ψ0 p k 1 φ ψ) (hx : φ 29 0 = x) (hp : p < sz) (hb : br ≤ 3) (ho : φ0 20 p = 12) (ha : φ0 21 p = Int32.ofNat br) (hg : φ0 22 p = Int32.ofNat tg) (hr : φ 28 br = Int32.ofNat r) (hr9 : r ≤ 9) : ∃ φ', rx_MV F nR nN nT gg 1 φ φ' ∧ (∀ j, j ≠ br → φ' 28 j = φ 28 j) ∧ ((x = 0 ∧ rn_S φ0 ψ0 tg k 0 φ' ψ) ∨ (x ≠ 0 ∧ r = 0 ∧ rn_X φ0 ψ0 4 k φ' (qm_u ψ 0 38 4)) ∨ (x ≠ 0 ∧ 1 ≤ r ∧ rn_S φ0 ψ0 (p + 1) k 0 φ' ψ ∧ φ' 28 br = Int32.ofNat (r - 1))) := by
  obtain ⟨e1, S1⟩ := rn_pop (F := F) (nR := nR) (nN := nN) (nT := nT) (gg := gg) h hx (p + 1)
  obtain ⟨φ1, d1⟩ : ∃ φ1, φ1 = qm_u (qm_u φ 26 6 (Int32.ofNat (p + 1))) 26 5 0 := ⟨_, rfl⟩
  rw [← d1] at e1 S1
  have h28 : ∀ j, φ1 28 j = φ 28 j := by intro j; rw [d1]; rfl
  have hr1 : φ1 28 br = Int32.ofNat r := by rw [h28]; exact hr
  have htw : ma_testWhile F nR nN nT gg φ1 (Int32.ofNat br) (Int32.ofNat tg) x = if ¬ x = 0 then (if 0 < r then some (qm_u φ1 28 br (Int32.ofNat r - 1)) else some (qm_u φ1 26 9 4)) else some (qm_u φ1 26 6 (Int32.ofNat tg)) := by
    unfold ma_testWhile
    rw [if_neg (ya_lt0 (by omega)), if_neg (by rw [show (4 : Int32) = Int32.ofNat 4 from rfl, ya_le (by omega) (by omega)]; omega), ya_in (by omega) (by omega), ya_nn (by omega), hr1]
    simp only [yg1]
    rw [show (0 : Int32) = Int32.ofNat 0 from rfl, yi_lt (by omega) (by omega)]
  have hpf : ma_perform F nR nN nT gg (qm_u φ 26 6 (Int32.ofNat (p + 1))) 12 (Int32.ofNat br) (Int32.ofNat tg) = if ¬ x = 0 then (if 0 < r then some (qm_u φ1 28 br (Int32.ofNat r - 1)) else some (qm_u φ1 26 9 4)) else some (qm_u φ1 26 6 (Int32.ofNat tg)) := by
    unfold ma_perform
    rw [if_neg (by decide), if_neg (by decide), if_neg (by decide), if_neg (by decide), if_neg (by decide), if_neg (by decide), if_neg (by decide), if_neg (by decide), if_neg (by decide), if_neg (by decide), if_neg (by decide), if_pos (by decide), e1]
    simp only [yb2]
    rw [htw]
    split
    · split
      · rfl
      · rfl
    · rfl
  obtain ⟨a1, a2, a3, a4, a5, a6, a7, a8, a9, a10⟩ := S1
  by_cases q : x = 0
  · rw [if_neg (by simp [q])] at hpf
    exact ⟨_, rn_mvp hz hT hT2 h hp ho ha hg hpf, fun j hj => h28 j, Or.inl ⟨q, a1.u 26 6 _ (by omega), a2, a3, rfl, a5, a6, a7, a8, a9, a10⟩⟩
  · rw [if_pos q] at hpf
    by_cases q0 : 0 < r
    · rw [if_pos q0, ya_sub1 (by omega)] at hpf
      exact ⟨_, rn_mvp hz hT hT2 h hp ho ha hg hpf, fun j hj => by rw [← h28 j]; simp [qm_u, hj], Or.inr (Or.inr ⟨q, q0, ⟨a1.u 28 br _ (by omega), a2, a3, a4, a5, a6, a7, a8, a9, a10⟩, by simp [qm_u]⟩)⟩
    · rw [if_neg q0] at hpf
      exact ⟨_, rn_mvp hz hT hT2 h hp ho ha hg hpf, fun j hj => h28 j, Or.inr (Or.inl ⟨q, by omega, a1.u 26 9 _ (by omega), a2.u 0 38 _ (by omega), rfl, rfl, by simp, a7, a8, a9⟩)⟩
end R2
