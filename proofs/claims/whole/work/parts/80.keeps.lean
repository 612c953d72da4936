/-! SEMANTICS: keep, pin, drop, set -/
section S7
variable {F nR nN nT gg nI u nK o s tn : Nat} {φ0 ψ0 φ ψ : qm_F} {Vf : Nat → Nat → Nat → Nat} {Hb : List Nat} {pn : Nat → Int32} {kp rk : Nat → Nat} {cur : Int32}
theorem sx_has (hK : sx_K nI pn kp nK φ) {j : Nat} (hj : j < 2147483648) : se_hasKept F nR nN nT gg φ (Int32.ofNat j) = some (if j < nK then 1 else 0) := by
  have k40 := hK.2.2.2
  unfold se_hasKept
  rw [hK.2.1, if_neg (ya_lt0 hj)]
  by_cases q : j < nK
  · rw [if_neg (by rw [ya_le (by omega) (by omega)]; omega), if_neg (by rw [show (40 : Int32) = Int32.ofNat 40 from rfl, ya_le (by omega) (by omega)]; omega), if_pos q]
  · rw [if_pos (by rw [ya_le (by omega) (by omega)]; omega), if_neg q]
theorem sm_kept {b : Nat → Bool} (hF : 200000 ≤ F) (hK : sm_K nI pn kp nK b ψ) (hn : nI ≤ 128) {i : Nat} (hi : i < nI) : mo_isKept F ψ (Int32.ofNat i) = some (match sp_ix (fun j => decide (kp j = i)) 0 nK with | some _ => 1 | none => 0) := by
  have k40 := hK.2.2.2.1
  have : ∀ (n m j : Nat), n + j = nK → n + 1 ≤ m → mo_isKept_L2 F m ψ (Int32.ofNat i) (Int32.ofNat j) = some (match sp_ix (fun j => decide (kp j = i)) j n with | some _ => 1 | none => 0) := by
    intro n
    induction n with
    | zero =>
      intro m j h1 h2
      obtain ⟨m, rfl⟩ : ∃ z, m = z + 1 := ⟨m - 1, by omega⟩
      unfold mo_isKept_L2
      rw [hK.2.1, if_pos (by rw [ya_le (by omega) (by omega)]; omega)]
      rfl
    | succ n ih =>
      intro m j h1 h2
      obtain ⟨m, rfl⟩ : ∃ z, m = z + 1 := ⟨m - 1, by omega⟩
      obtain ⟨k1, k2⟩ := hK.2.2.1 j (by omega)
      unfold mo_isKept_L2 sp_ix
      rw [hK.2.1, if_neg (by rw [ya_le (by omega) (by omega)]; omega), ya_in (by omega) (by omega), ya_nn (by omega), k1, ya_add1]
      simp only [yg1]
      by_cases q : kp j = i
      · rw [if_neg (by simp [q]), if_pos (by simp [q])]
      · rw [if_pos (by rw [ya_eq (by omega) (by omega)]; exact q), if_neg (by simp [q])]
        exact ih m (j + 1) (by omega) (by omega)
  exact this nK F 0 (by omega) (by omega)
theorem so_keep (h : sb_D F nR nN nT gg nI φ0 ψ0 Vf Hb rk u nK o s tn pn kp cur φ ψ) (x1 : Int32) : sb_do F nR nN nT gg nI φ0 ψ0 Vf Hb rk tn (sf_keep F nR nN nT gg φ x1) (mo_keep F ψ x1) := by
  have H := h.1 u h.2.2.2.1
  have hF := ss_F H
  have hx := h.2.2.2.2.1
  have hm := h.2.2.2.2.2.1.t 0
  have hKx := h.2.2.2.2.2.2.1
  have hKm := h.2.2.2.2.2.2.2.1.t 0
  have h12 : (qm_u ψ 0 0 0) 0 12 = 1 := h.2.2.2.2.2.2.2.2.2.2.2.2.1
  have h0 := h.th 0
  have n40 : nK ≤ 40 := hKx.2.2.2
  unfold sf_keep mo_keep
  rcases sg_input H hx.1 hm.1 h12 x1 with ⟨i, hi, rfl, e1, e2⟩ | ⟨e1, e2⟩
  · have m1 := sm_kept (F := F) hF.1 hKm hF.2.2.1 hi
    have c1 : se_keepInput F nR nN nT gg φ (Int32.ofNat i) = match sp_ix (fun j => decide (kp j = i)) 0 nK with | some _ => some (-1, φ) | none => se_keepInput_L2 F nR nN nT gg 1 φ (Int32.ofNat i) (Int32.ofNat nK) := by
      obtain ⟨φ', r1, r2⟩ := sg_findG (L := fun m φ j => se_keepInput_L2 F nR nN nT gg m φ (Int32.ofNat i) j) (I := fun φ1 => φ1 = φ) (N := nK) (fun j => decide (kp j = i)) (fun _ φ => some (-1, φ)) (fun φ => se_keepInput_L2 F nR nN nT gg 1 φ (Int32.ofNat i) (Int32.ofNat nK)) (fun m φ1 j hh hj => by
          subst hh
          refine ⟨φ1, rfl, ?_⟩
          obtain ⟨k1, k2⟩ := hKx.2.2.1 j hj
          show se_keepInput_L2 F nR nN nT gg (m + 1) φ1 (Int32.ofNat i) (Int32.ofNat j) = _
          conv => lhs; unfold se_keepInput_L2
          rw [hKx.2.1, if_neg (by rw [ya_le (by omega) (by omega)]; omega), if_neg (by rw [show (40 : Int32) = Int32.ofNat 40 from rfl, ya_le (by omega) (by omega)]; omega), ya_in (by omega) (by omega), ya_nn (by omega), k1, ya_add1]
          simp only [yg1]
          by_cases q : kp j = i
          · rw [if_neg (by simp [q]), if_pos (by simp [q])]
          · rw [if_pos (by rw [ya_eq (by omega) (by omega)]; exact q), if_neg (by simp [q])]) (fun m φ1 hh => by
          show se_keepInput_L2 F nR nN nT gg (m + 1) φ1 (Int32.ofNat i) (Int32.ofNat nK) = se_keepInput_L2 F nR nN nT gg 1 φ1 (Int32.ofNat i) (Int32.ofNat nK)
          subst hh
          have hc : φ1 30 5 ≤ Int32.ofNat nK := by rw [hKx.2.1]; exact (ya_le (by omega) (by omega)).mpr (Nat.le_refl _)
          unfold se_keepInput_L2
          rw [if_pos hc, if_pos hc]) nK F 0 φ (by omega) (by omega) rfl
      subst r1
      exact r2
    rw [e1, e2]
    simp only [yb1]
    rw [m1, c1, if_pos (by decide), if_neg (by decide)]
    simp only [yb1]
    cases e : sp_ix (fun j => decide (kp j = i)) 0 nK with
    | some k =>
      simp only [yb2]
      rw [if_pos (by decide)]
      exact ⟨-1, φ, _, rfl, rfl, h0.x⟩
    | none =>
      simp only []
      rw [if_neg (by decide)]
      have hc : φ 30 5 ≤ Int32.ofNat nK := by rw [hKx.2.1]; exact (ya_le (by omega) (by omega)).mpr (Nat.le_refl _)
      unfold se_keepInput_L2
      rw [if_pos hc]
      unfold se_keepInput_L37 se_addKept se_beginAnew mo_seeks
      rw [hKx.2.1]
      simp only [yb1]
      have n45 : ψ 0 45 = Int32.ofNat nK := hKm.2.1
      rw [if_neg (ya_lt0 (by omega)), n45]
      by_cases q : nK < 40
      · rw [if_pos (by rw [show (40 : Int32) = Int32.ofNat 40 from rfl, ya_lt (by omega) (by omega)]; exact q), if_pos (by rw [show (40 : Int32) = Int32.ofNat 40 from rfl, ya_eq (by omega) (by omega)]; omega), ya_in (by omega) q, ya_nn (by omega), ya_add1]
        simp only [yg1, yb2, yb1]
        rw [if_pos (by decide)]
        simp only [yb2]
        refine ⟨Int32.ofNat (nK + 1), _, _, by simp only [Option.some.injEq, Prod.mk.injEq]; exact ⟨by simp [qm_u], rfl⟩, by simp only [Option.some.injEq, Prod.mk.injEq]; exact ⟨by simp [qm_u], rfl⟩, u, o, pn, nK + 1, 0, (fun j => if j = nK then i else kp j), -1, ?_⟩
        exact so_add h0 hi q 0 _ _ (Or.inr rfl) (by simp [qm_u]) (Or.inr rfl) (by simp [qm_u]) (by omega)
      · have e40 : nK = 40 := by omega
        subst e40
        rw [if_neg (by decide), if_neg (by decide)]
        simp only [yb2]
        rw [if_neg (by decide)]
        exact ⟨-1, φ, _, rfl, rfl, h0.x⟩
  · rw [e1, e2]
    simp only [yb1]
    rw [if_neg (by decide), if_pos trivial]
    exact ⟨-1, φ, _, rfl, rfl, h0.x⟩
theorem sg_width {x : Nat} (hx : x ≤ 7) (y : Int32) : (y < (1 : Int32) <<< (Int32.ofNat x &&& 31)) ↔ (y ≤ ((1 : Int32) <<< (Int32.ofNat x &&& 31)) - 1) := by
  have e : ∀ x, x ≤ 7 → (1 : Int32) <<< (Int32.ofNat x &&& 31) = Int32.ofNat (2 ^ x) := by decide
  have hp : 1 ≤ 2 ^ x ∧ 2 ^ x ≤ 128 := by
    have : ∀ x, x ≤ 7 → 1 ≤ 2 ^ x ∧ 2 ^ x ≤ 128 := by decide
    exact this x hx
  rw [e x hx, ya_sub1 hp.1, Int32.lt_iff_toInt_lt, Int32.le_iff_toInt_le, ya_int (by omega), ya_int (by omega)]
  omega
theorem so_pin (h : sb_D F nR nN nT gg nI φ0 ψ0 Vf Hb rk u nK o s tn pn kp cur φ ψ) (x1 x2 : Int32) : sb_do F nR nN nT gg nI φ0 ψ0 Vf Hb rk tn (sf_pin F nR nN nT gg φ x1 x2) (mo_pin F ψ x1 x2) := by
  have H := h.1 u h.2.2.2.1
  have hF := ss_F H
  have hP := h.2.1
  have hx := h.2.2.2.2.1
  have hm := h.2.2.2.2.2.1.t 0
  have hKx := h.2.2.2.2.2.2.1
  have hKm := h.2.2.2.2.2.2.2.1
  have h12 : (qm_u ψ 0 0 0) 0 12 = 1 := h.2.2.2.2.2.2.2.2.2.2.2.2.1
  have q1 := h.2.2.2.2.2.2.2.2
  have h0 := h.th 0
  unfold sf_pin mo_pin
  rcases sg_hole (F := F) (nR := nR) (nN := nN) (nT := nT) hP hx.1 hm.1 h12 x1 with ⟨k, hk, rfl, e1, e2⟩ | ⟨e1, e2⟩
  · have p1 := hP.1
    obtain ⟨w1, w2⟩ := hP.2.2.2.2 k Hb[k] (List.getElem?_eq_getElem hk)
    have hw7 : Hb[k] ≤ 7 := by
      have h3 := rp_sumle Hb k
      have h4 := rp_drop Hb (k := k) hk
      have h5 : Hb.getD k 0 = Hb[k] := by rw [List.getD_eq_getElem?_getD, List.getElem?_eq_getElem hk]; rfl
      have := hP.2.1
      omega
    have v1 : φ 16 k = Int32.ofNat Hb[k] := by rw [hx.1.1 16 k (by omega) (by omega)]; exact w1
    have v2 : ψ 4 (3 + k) = Int32.ofNat Hb[k] := by
      have := hm.1 4 (3 + k) (by omega)
      rw [← w2, ← this]
      simp [qm_u]
    have v3 : φ 31 k = pn k := hKx.1 k (by omega)
    have v4 : ψ 15 k = pn k := hKm.1 k (by omega)
    rw [e1, e2]
    simp only [yb1]
    rw [if_pos (by decide), if_neg (c := (1 : Int32) = 0) (by decide), show (3 : Int32) + Int32.ofNat k = Int32.ofNat (3 + k) from ya_add 3 k, ya_in (k := k) (n := 5) (by omega) (by omega), ya_in (k := 3 + k) (n := 30) (by omega) (by omega), ya_nn (by omega), ya_nn (by omega), v1, v2, v4]
    simp only [yg1]
    rw [show (-1 : Int64) = Int32.toInt64 (-1) from by decide, ys_wi]
    simp only [yb1]
    have hw := sg_width hw7 x2
    by_cases c1 : x2 < -1
    · simp only [if_pos c1, if_true]
      exact ⟨0, φ, _, rfl, rfl, h0.x⟩
    · simp only [if_neg c1]
      by_cases c2 : x2 < (1 : Int32) <<< (Int32.ofNat Hb[k] &&& 31)
      · simp only [if_pos c2, if_pos (hw.mp c2)]
        rw [if_neg (c := (1 : Int32) = 0) (by decide)]
        unfold se_pinTo se_beginAnew mo_seeks
        rw [if_neg (ya_lt0 (by omega)), if_neg (by rw [show (5 : Int32) = Int32.ofNat 5 from rfl, ya_le (by omega) (by omega)]; omega), ya_in (k := k) (n := 5) (by omega) (by omega), ya_nn (by omega), v3]
        simp only [yg1]
        by_cases c3 : pn k = x2
        · rw [if_neg (fun z => z c3), if_neg (fun z => z c3)]
          simp only [yb2, yg0, yg1]
          exact ⟨0, φ, _, rfl, rfl, h0.x⟩
        · rw [if_pos c3, if_pos c3]
          simp only [yb1, yb2, yg01, yg1]
          refine ⟨1, _, _, rfl, rfl, u, o, (fun j => if j = k then x2 else pn j), nK, 0, kp, -1, ?_⟩
          refine h.w (fun a j x => ?_) (fun a j x y z w => ?_) ⟨fun j hj => ?_, ?_, fun j hj => ?_, hKx.2.2.2⟩ ⟨fun j hj => ?_, ?_, fun j hj => ?_, hKm.2.2.2.1, fun j hj => ?_⟩ ⟨by simp [qm_u]; exact q1.1.1, by simp [qm_u]; exact q1.1.2.1, q1.1.2.2⟩ ⟨by simp [qm_u], by simp [qm_u], by omega⟩ ⟨by simp [qm_u], by simp [qm_u]⟩ (Or.inl rfl)
          · (unfold qm_u; repeat' split) <;> first | rfl | omega
          · (unfold qm_u; repeat' split) <;> first | rfl | omega
          · by_cases w : j = k
            · simp [qm_u, w]
            · simp [qm_u, w]; exact hKx.1 j hj
          · simp [qm_u]; exact hKx.2.1
          · have : (qm_u (qm_u (qm_u φ 31 k x2) 30 7 0) 30 8 (-1)) 32 j = φ 32 j := by simp [qm_u]
            rw [this]; exact hKx.2.2.1 j hj
          · by_cases w : j = k
            · simp [qm_u, w]
            · simp [qm_u, w]; exact hKm.1 j hj
          · simp [qm_u]; exact hKm.2.1
          · have : (qm_u (qm_u (qm_u (qm_u ψ 0 0 0) 15 k x2) 0 41 0) 0 42 (-1)) 20 j = ψ 20 j := by simp [qm_u]
            rw [this]; exact hKm.2.2.1 j hj
          · have : (qm_u (qm_u (qm_u (qm_u ψ 0 0 0) 15 k x2) 0 41 0) 0 42 (-1)) 21 j = ψ 21 j := by simp [qm_u]
            rw [this]; exact hKm.2.2.2.2 j hj
      · simp only [if_neg c2, if_neg (fun z => c2 (hw.mpr z)), if_true]
        exact ⟨0, φ, _, rfl, rfl, h0.x⟩
  · rw [e1, e2]
    simp only [yb1]
    rw [if_neg (by decide), if_pos trivial]
    exact ⟨0, φ, _, rfl, rfl, h0.x⟩

theorem so_drop (h : sb_D F nR nN nT gg nI φ0 ψ0 Vf Hb rk u nK o s tn pn kp cur φ ψ) (x1 : Int32) : sb_do F nR nN nT gg nI φ0 ψ0 Vf Hb rk tn (sf_drop F nR nN nT gg φ x1) (mo_drop F ψ x1) := by
  have H := h.1 u h.2.2.2.1
  have hF := ss_F H
  have hKx := h.2.2.2.2.2.2.1
  have hKm := h.2.2.2.2.2.2.2.1
  have h12 : ψ 0 12 = 1 := h.2.2.2.2.2.2.2.2.2.2.2.2.1
  have q1 := h.2.2.2.2.2.2.2.2
  have h0 := h.th 0
  have n40 : nK ≤ 40 := hKx.2.2.2
  have n45 : ψ 0 45 = Int32.ofNat nK := hKm.2.1
  unfold sf_drop mo_drop
  rw [h12, if_neg (by decide), n45, show (0 : Int64) = Int32.toInt64 0 from by decide, ys_wi]
  simp only [yb1]
  by_cases c0 : x1 < 0
  · simp only [if_pos c0]
    unfold se_hasKept
    rw [if_pos c0]
    simp only [yb1]
    rw [if_neg (by decide), if_neg (by decide)]
    exact ⟨-1, φ, _, rfl, rfl, h0.x⟩
  · obtain ⟨k, hk, rfl⟩ := ya_nat c0
    simp only [if_neg c0]
    rw [sx_has hKx hk]
    simp only [yb1]
    by_cases q : k < nK
    · have hn1 : Int32.ofNat nK - 1 = Int32.ofNat (nK - 1) := ya_sub1 (by omega)
      rw [hn1, if_pos q, if_pos (c := Int32.ofNat k ≤ Int32.ofNat (nK - 1)) (by rw [ya_le (by omega) (by omega)]; omega), if_pos (by decide), if_pos (by decide)]
      obtain ⟨k1, k2⟩ := hKx.2.2.1 k q
      obtain ⟨k3, _⟩ := hKm.2.2.1 k q
      have kne : Int32.ofNat (kp k) ≠ -1 := fun z => ya_lt0 (show kp k < 2147483648 by omega) (by rw [z]; decide)
      have e1 : se_dropKept F nR nN nT gg φ (Int32.ofNat k) = se_dropKept_L15 F nR nN nT gg F φ (Int32.ofNat (kp k)) (Int32.ofNat k) := by
        unfold se_dropKept se_keptAt
        rw [sx_has hKx hk, if_pos q]
        simp only [yb1]
        rw [if_neg (by decide), ya_in (by omega) (by omega), ya_nn (by omega), k1]
        simp only [yg1, yb1]
        rw [if_pos kne]
      have cx : ∀ (n m p : Nat) (φ1 : qm_F), n + p + 1 = nK → k ≤ p → n + 1 ≤ m → (∀ a j, a ≠ 32 → φ1 a j = φ a j) → (∀ j, j < nK → φ1 32 j = Int32.ofNat (if k ≤ j ∧ j < p then kp (j + 1) else kp j)) →
          ∃ φ2, se_dropKept_L15 F nR nN nT gg m φ1 (Int32.ofNat (kp k)) (Int32.ofNat p) = some (Int32.ofNat (kp k), qm_u (qm_u (qm_u φ2 30 5 (Int32.ofNat (nK - 1))) 30 7 0) 30 8 (-1)) ∧ (∀ a j, a ≠ 32 → φ2 a j = φ a j) ∧ (∀ j, j < nK - 1 → φ2 32 j = Int32.ofNat (if k ≤ j then kp (j + 1) else kp j)) := by
        intro n
        induction n with
        | zero =>
          intro m p φ1 h1 h2 h3 h4 h5
          obtain ⟨m, rfl⟩ : ∃ z, m = z + 1 := ⟨m - 1, by omega⟩
          refine ⟨φ1, ?_, h4, fun j hj => ?_⟩
          · unfold se_dropKept_L15
            rw [h4 30 5 (by omega), hKx.2.1, ya_add1, if_pos (by rw [ya_le (by omega) (by omega)]; omega)]
            unfold se_dropKept_L56
            rw [h4 30 5 (by omega), hKx.2.1, hn1]
            rfl
          · rw [h5 j (by omega)]
            by_cases w : k ≤ j
            · rw [if_pos ⟨w, by omega⟩, if_pos w]
            · rw [if_neg (fun z => w z.1), if_neg w]
        | succ n ih =>
          intro m p φ1 h1 h2 h3 h4 h5
          obtain ⟨m, rfl⟩ : ∃ z, m = z + 1 := ⟨m - 1, by omega⟩
          have hc : φ1 30 5 = Int32.ofNat nK := by rw [h4 30 5 (by omega)]; exact hKx.2.1
          have st : se_dropKept_L15 F nR nN nT gg (m + 1) φ1 (Int32.ofNat (kp k)) (Int32.ofNat p) = se_dropKept_L15 F nR nN nT gg m (qm_u φ1 32 p (φ1 32 (p + 1))) (Int32.ofNat (kp k)) (Int32.ofNat (p + 1)) := by
            conv => lhs; unfold se_dropKept_L15
            rw [ya_add1, hc, if_neg (by rw [ya_le (by omega) (by omega)]; omega), if_neg (by rw [show (40 : Int32) = Int32.ofNat 40 from rfl, ya_le (by omega) (by omega)]; omega), ya_in (k := p) (n := 40) (by omega) (by omega), ya_in (k := p + 1) (n := 40) (by omega) (by omega), ya_nn (by omega), ya_nn (by omega)]
            rfl
          rw [st]
          refine ih m (p + 1) _ (by omega) (by omega) (by omega) (fun a j ha => ?_) (fun j hj => ?_)
          · rw [← h4 a j ha]; simp [qm_u, ha]
          · by_cases w : j = p
            · subst w
              rw [ya_u_same, h5 (j + 1) (by omega), if_neg (by omega), if_pos ⟨h2, by omega⟩]
            · have : (qm_u φ1 32 p (φ1 32 (p + 1))) 32 j = φ1 32 j := by simp [qm_u, w]
              rw [this, h5 j hj]
              by_cases w2 : k ≤ j ∧ j < p
              · rw [if_pos w2, if_pos ⟨w2.1, by omega⟩]
              · rw [if_neg w2, if_neg (fun z => w2 ⟨z.1, by omega⟩)]
      have cm : ∀ (n m p : Nat) (φ1 : qm_F), n + p + 1 = nK → k ≤ p → n + 1 ≤ m → (∀ a j, a ≠ 20 → φ1 a j = (qm_u (qm_u ψ 0 0 0) 0 45 (Int32.ofNat (nK - 1))) a j) → (∀ j, j < nK → φ1 20 j = Int32.ofNat (if k ≤ j ∧ j < p then kp (j + 1) else kp j)) →
          ∃ φ2, mo_drop_L49 F m φ1 (Int32.ofNat (kp k)) (Int32.ofNat p) = some (Int32.ofNat (kp k), qm_u (qm_u φ2 0 41 0) 0 42 (-1)) ∧ (∀ a j, a ≠ 20 → φ2 a j = (qm_u (qm_u ψ 0 0 0) 0 45 (Int32.ofNat (nK - 1))) a j) ∧ (∀ j, j < nK - 1 → φ2 20 j = Int32.ofNat (if k ≤ j then kp (j + 1) else kp j)) := by
        intro n
        induction n with
        | zero =>
          intro m p φ1 h1 h2 h3 h4 h5
          obtain ⟨m, rfl⟩ : ∃ z, m = z + 1 := ⟨m - 1, by omega⟩
          refine ⟨φ1, ?_, h4, fun j hj => ?_⟩
          · unfold mo_drop_L49
            have h45 : φ1 0 45 = Int32.ofNat (nK - 1) := by rw [h4 0 45 (by omega)]; simp [qm_u]
            rw [h45, if_pos (by rw [ya_le (by omega) (by omega)]; omega)]
            rfl
          · rw [h5 j (by omega)]
            by_cases w : k ≤ j
            · rw [if_pos ⟨w, by omega⟩, if_pos w]
            · rw [if_neg (fun z => w z.1), if_neg w]
        | succ n ih =>
          intro m p φ1 h1 h2 h3 h4 h5
          obtain ⟨m, rfl⟩ : ∃ z, m = z + 1 := ⟨m - 1, by omega⟩
          have st : mo_drop_L49 F (m + 1) φ1 (Int32.ofNat (kp k)) (Int32.ofNat p) = mo_drop_L49 F m (qm_u φ1 20 p (φ1 20 (p + 1))) (Int32.ofNat (kp k)) (Int32.ofNat (p + 1)) := by
            conv => lhs; unfold mo_drop_L49
            have h45 : φ1 0 45 = Int32.ofNat (nK - 1) := by rw [h4 0 45 (by omega)]; simp [qm_u]
            rw [h45, ya_add1, if_neg (by rw [ya_le (by omega) (by omega)]; omega), ya_in (k := p) (n := 40) (by omega) (by omega), ya_in (k := p + 1) (n := 40) (by omega) (by omega), ya_nn (by omega), ya_nn (by omega)]
            rfl
          rw [st]
          refine ih m (p + 1) _ (by omega) (by omega) (by omega) (fun a j ha => ?_) (fun j hj => ?_)
          · rw [← h4 a j ha]; simp [qm_u, ha]
          · by_cases w : j = p
            · subst w
              rw [ya_u_same, h5 (j + 1) (by omega), if_neg (by omega), if_pos ⟨h2, by omega⟩]
            · have : (qm_u φ1 20 p (φ1 20 (p + 1))) 20 j = φ1 20 j := by simp [qm_u, w]
              rw [this, h5 j hj]
              by_cases w2 : k ≤ j ∧ j < p
              · rw [if_pos w2, if_pos ⟨w2.1, by omega⟩]
              · rw [if_neg w2, if_neg (fun z => w2 ⟨z.1, by omega⟩)]
      obtain ⟨φ2, r1, r2, r3⟩ := cx (nK - k - 1) F k φ (by omega) (Nat.le_refl _) (by omega) (fun _ _ _ => rfl) (fun j hj => by rw [if_neg (by omega)]; exact (hKx.2.2.1 j hj).1)
      obtain ⟨ψ2, r4, r5, r6⟩ := cm (nK - k - 1) F k (qm_u (qm_u ψ 0 0 0) 0 45 (Int32.ofNat (nK - 1))) (by omega) (Nat.le_refl _) (by omega) (fun _ _ _ => rfl) (fun j hj => by
        rw [if_neg (by omega), ← (hKm.2.2.1 j hj).1]
        simp [qm_u])
      rw [e1, r1, ya_in (k := k) (n := 40) (by omega) (by omega), ya_nn (by omega), k3]
      simp only [yb2, yg1]
      rw [r4]
      refine ⟨_, _, _, rfl, rfl, u, o, pn, nK - 1, 0, (fun j => if k ≤ j then kp (j + 1) else kp j), -1, ?_⟩
      have px : ∀ a j, ¬ (a = 30 ∧ (j = 5 ∨ j = 7 ∨ j = 8)) → a ≠ 32 → (qm_u (qm_u (qm_u φ2 30 5 (Int32.ofNat (nK - 1))) 30 7 0) 30 8 (-1)) a j = φ a j := by
        intro a j x y
        rw [← r2 a j y]
        (unfold qm_u; repeat' split) <;> first | rfl | omega
      have pm : ∀ a j, ¬ (a = 0 ∧ (j = 0 ∨ j = 45 ∨ j = 41 ∨ j = 42)) → a ≠ 20 → (qm_u (qm_u ψ2 0 41 0) 0 42 (-1)) a j = ψ a j := by
        intro a j x y
        have := r5 a j y
        rw [show (qm_u (qm_u ψ2 0 41 0) 0 42 (-1)) a j = ψ2 a j from by (unfold qm_u; repeat' split) <;> first | rfl | omega, this]
        (unfold qm_u; repeat' split) <;> first | rfl | omega
      refine h.w (fun a j x => px a j (by omega) (by omega)) (fun a j x y z w => pm a j (by omega) (by omega)) ⟨fun j hj => ?_, ?_, fun j hj => ⟨?_, ?_⟩, by omega⟩ ⟨fun j hj => ?_, ?_, fun j hj => ⟨?_, ?_⟩, by omega, fun j hj => ?_⟩ ⟨?_, ?_, q1.1.2.2⟩ ⟨by simp [qm_u], by simp [qm_u], by omega⟩ ⟨by simp [qm_u], by simp [qm_u]⟩ (Or.inl rfl)
      · rw [px _ _ (by omega) (by omega)]; exact hKx.1 j hj
      · simp [qm_u]
      · rw [← r3 j hj]; simp [qm_u]
      · show (if k ≤ j then kp (j + 1) else kp j) < nI
        split
        · exact (hKx.2.2.1 (j + 1) (by omega)).2
        · exact (hKx.2.2.1 j (by omega)).2
      · rw [pm _ _ (by omega) (by omega)]; exact hKm.1 j hj
      · have := r5 0 45 (by omega)
        simp [qm_u] at this ⊢
        exact this
      · rw [← r6 j hj]; simp [qm_u]
      · show (if k ≤ j then kp (j + 1) else kp j) < nI
        split
        · exact (hKx.2.2.1 (j + 1) (by omega)).2
        · exact (hKx.2.2.1 j (by omega)).2
      · rw [pm _ _ (by omega) (by omega)]; exact hKm.2.2.2.2 j hj
      · rw [px _ _ (by omega) (by omega)]; exact q1.1.1
      · rw [pm _ _ (by omega) (by omega)]; exact q1.1.2.1
    · have q' : ¬ Int32.ofNat k ≤ Int32.ofNat nK - 1 := by
        by_cases z : nK = 0
        · subst z
          intro w
          exact ya_lt0 hk (Int32.lt_of_le_of_lt w (by decide))
        · rw [ya_sub1 (by omega), ya_le (by omega) (by omega)]; omega
      simp only [if_neg q, if_neg q']
      rw [if_neg (by decide), if_neg (by decide)]
      exact ⟨-1, φ, _, rfl, rfl, h0.x⟩
end S7
