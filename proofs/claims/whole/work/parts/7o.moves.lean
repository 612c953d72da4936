/-! SEMANTICS: runs, moves of the component; an expression on both sides -/
def rx_MV (F nR nN nT gg k : Nat) (φ φ' : qm_F) : Prop := ∀ m i, i + k ≤ 1000000 → ma_run_L41 F nR nN nT gg (m + k) φ (Int32.ofNat i) = ma_run_L41 F nR nN nT gg m φ' (Int32.ofNat (i + k))
def rx_g (φ φ' : qm_F) : Prop := ∀ a j, ¬ (a = 26 ∧ (j = 5 ∨ j = 6 ∨ j = 9)) → ¬ (a = 29) → φ' a j = φ a j
theorem rx_g.trans {φ φ' φ'' : qm_F} (h : rx_g φ φ') (h' : rx_g φ' φ'') : rx_g φ φ'' := fun a j x y => (h' a j x y).trans (h a j x y)
section R1
variable {F nR nN nT gg : Nat}
theorem rx_MV.refl (φ : qm_F) : rx_MV F nR nN nT gg 0 φ φ := fun m i _ => rfl
theorem rx_MV.trans {k k' : Nat} {φ φ' φ'' : qm_F} (h : rx_MV F nR nN nT gg k φ φ') (h' : rx_MV F nR nN nT gg k' φ' φ'') : rx_MV F nR nN nT gg (k + k') φ φ'' := by
  intro m i hi
  have e1 := h (m + k') i (by omega)
  have e2 := h' m (i + k) (by omega)
  rw [show m + (k + k') = m + k' + k by omega, e1, e2, show i + k + k' = i + (k + k') by omega]
theorem rx_mv1 {φ φ' : qm_F} {p sz : Nat} (h9 : φ 26 9 = -1) (h6 : φ 26 6 = Int32.ofNat p) (hz : φ 14 13 = Int32.ofNat sz) (hp : p < sz) (hT : sz ≤ nT) (hT2 : sz ≤ 801) (e : ma_perform F nR nN nT gg (qm_u φ 26 6 (Int32.ofNat (p + 1))) (φ 20 p) (φ 21 p) (φ 22 p) = some φ') : rx_MV F nR nN nT gg 1 φ φ' := by
  intro m i hi
  conv => lhs; unfold ma_run_L41
  rw [h9, h6, hz, if_neg (by rw [show (1000000 : Int32) = Int32.ofNat 1000000 from rfl, ya_le (by omega) (by omega)]; omega), if_neg (by simp), if_neg (ya_lt0 (by omega)), if_pos (by rw [ya_lt (by omega) (by omega)]; exact hp), ya_in (by omega) (by omega), ya_nn (by omega), ya_add1, e, ya_add1]
  rfl
theorem rx_seg {mk : Int32} {C V : Nat → Int32} {sz : Nat} (hT : sz ≤ nT) (hT2 : sz ≤ 801) : ∀ (n a p h' : Nat) (st : List Int32) (φ : qm_F), φ 26 1 = mk → φ 14 13 = Int32.ofNat sz → (∀ i, i < n → ye_cm (C (a + i)) (V (a + i)) (φ 20 (p + i)) (φ 21 (p + i))) → ye_hs C a n st.length = some h' → φ 26 5 = Int32.ofNat st.length → st.length ≤ 64 → rv_s (φ 29) st → φ 26 6 = Int32.ofNat p → φ 26 9 = -1 → p + n ≤ sz →
    (∃ st' φ', rv_n mk (φ 27) C V a n st = some st' ∧ rx_MV F nR nN nT gg n φ φ' ∧ φ' 26 5 = Int32.ofNat st'.length ∧ rv_s (φ' 29) st' ∧ st'.length = h' ∧ φ' 26 6 = Int32.ofNat (p + n) ∧ φ' 26 9 = -1 ∧ rx_g φ φ') ∨
    (rv_n mk (φ 27) C V a n st = none ∧ ∃ k φ', k ≤ n ∧ rx_MV F nR nN nT gg k φ φ' ∧ φ' 26 9 = 3 ∧ rx_g φ φ') := by
  intro n
  induction n with
  | zero =>
    intro a p h' st φ hm hz hc hh h5 hl hs h6 h9 hp
    simp only [ye_hs, Option.some.injEq] at hh
    exact Or.inl ⟨st, φ, rfl, rx_MV.refl φ, h5, hs, hh, h6, h9, fun _ _ _ _ => rfl⟩
  | succ n ih =>
    intro a p h' st φ hm hz hc hh h5 hl hs h6 h9 hp
    unfold ye_hs at hh
    cases q : ye_h1 (C a) st.length with
    | none => rw [q] at hh; cases hh
    | some h1 =>
      rw [q] at hh
      simp only at hh
      have hc0 := hc 0 (by omega)
      rw [Nat.add_zero, Nat.add_zero] at hc0
      have g0 : rx_g φ (qm_u φ 26 6 (Int32.ofNat (p + 1))) := by
        intro x j y1 y2
        unfold qm_u
        repeat' split
        all_goals first | rfl | omega
      rcases rx_1 (F := F) (nR := nR) (nN := nN) (nT := nT) (gg := gg) (φ := qm_u φ 26 6 (Int32.ofNat (p + 1))) (g := φ 22 p) (mk := mk) hm hc0 h5 hl hs q with ⟨st1, φ1, e1, e2, p5, ps, pl, pf, p9⟩ | ⟨e1, φ1, e2, p9, pf⟩
      · have mv := rx_mv1 h9 h6 hz (by omega) hT hT2 e2
        have pf' : rx_g φ φ1 := g0.trans (fun x j y1 y2 => pf x j (by omega) y2)
        have p6 : φ1 26 6 = Int32.ofNat (p + 1) := by rw [pf 26 6 (by omega) (by omega)]; rfl
        have hl1 : st1.length ≤ 64 := by
          obtain ⟨k1, k2, k3⟩ := rv_h1 q hl
          by_cases c01 : C a = 0 ∨ C a = 1
          · have := k1 c01; omega
          · by_cases c23 : C a = 2 ∨ C a = 3
            · have := k2 c23; omega
            · have := k3 c01 c23; omega
        have h27 : φ1 27 = φ 27 := by funext j; exact pf' 27 j (by omega) (by omega)
        rw [← pl] at hh
        rcases ih (a + 1) (p + 1) h' st1 φ1 (by rw [pf' 26 1 (by omega) (by omega)]; exact hm) (by rw [pf' 14 13 (by omega) (by omega)]; exact hz) (fun i hi => by
          rw [pf' 20 _ (by omega) (by omega), pf' 21 _ (by omega) (by omega), show a + 1 + i = a + (i + 1) by omega, show p + 1 + i = p + (i + 1) by omega]
          exact hc (i + 1) (by omega)) hh p5 hl1 ps p6 (p9.trans h9) (by omega) with ⟨st2, φ2, r1, r2, r3, r4, r5, r6, r7, r8⟩ | ⟨r1, k, φ2, r2, r3, r4, r5⟩
        · refine Or.inl ⟨st2, φ2, ?_, by rw [Nat.add_comm]; exact mv.trans r2, r3, r4, r5, by rw [r6]; congr 1; omega, r7, pf'.trans r8⟩
          show (match rv_1 mk (φ 27) (C a) (V a) st with | none => none | some st' => rv_n mk (φ 27) C V (a + 1) n st') = some st2
          have e1' : rv_1 mk (φ 27) (C a) (V a) st = some st1 := e1
          rw [e1']
          simp only
          rw [← h27]; exact r1
        · refine Or.inr ⟨?_, 1 + k, φ2, by omega, mv.trans r3, r4, pf'.trans r5⟩
          show (match rv_1 mk (φ 27) (C a) (V a) st with | none => none | some st' => rv_n mk (φ 27) C V (a + 1) n st') = none
          have e1' : rv_1 mk (φ 27) (C a) (V a) st = some st1 := e1
          rw [e1']
          simp only
          rw [← h27]; exact r1
      · have mv := rx_mv1 h9 h6 hz (by omega) hT hT2 e2
        refine Or.inr ⟨?_, 1, φ1, by omega, mv, p9, g0.trans (fun x j y1 y2 => pf x j (by omega) y2)⟩
        show (match rv_1 mk (φ 27) (C a) (V a) st with | none => none | some st' => rv_n mk (φ 27) C V (a + 1) n st') = none
        have e1' : rv_1 mk (φ 27) (C a) (V a) st = none := e1
        rw [e1']
theorem rr_seg {mk : Int32} : ∀ (n a h' m : Nat) (st : List Int32) (ψ : qm_F), n + 1 ≤ m → a + n ≤ 1600 → (1 <<< ((ψ 2 0) &&& 31)) - 1 = mk → (∀ i, i < n → ∃ o r, ye_cm (ψ 7 (a + i)) (ψ 8 (a + i)) o r) → ye_hs (ψ 7) a n st.length = some h' → ψ 0 36 = Int32.ofNat st.length → st.length ≤ 64 → rv_s (ψ 18) st → ψ 0 38 = -1 →
    (∃ st' ψ', rv_n mk (ψ 17) (ψ 7) (ψ 8) a n st = some st' ∧ mo_worked_L7 F m ψ (Int32.ofNat (a + n)) (Int32.ofNat a) = mo_worked_L86 F ψ' ∧ ψ' 0 36 = Int32.ofNat st'.length ∧ rv_s (ψ' 18) st' ∧ st'.length = h' ∧ ψ' 0 38 = -1 ∧ rr_f ψ ψ') ∨
    (rv_n mk (ψ 17) (ψ 7) (ψ 8) a n st = none ∧ ∃ ψ', mo_worked_L7 F m ψ (Int32.ofNat (a + n)) (Int32.ofNat a) = some (0, ψ') ∧ ψ' 0 38 = 3 ∧ rr_f ψ ψ') := by
  intro n
  induction n with
  | zero =>
    intro a h' m st ψ hmm ha hm hc hh h5 hl hs h38
    simp only [ye_hs, Option.some.injEq] at hh
    obtain ⟨m, rfl⟩ : ∃ z, m = z + 1 := ⟨m - 1, by omega⟩
    refine Or.inl ⟨st, ψ, rfl, ?_, h5, hs, hh, h38, fun _ _ _ _ => rfl⟩
    unfold mo_worked_L7
    rw [if_pos (by rw [ya_le (by omega) (by omega)]; omega)]
  | succ n ih =>
    intro a h' m st ψ hmm ha hm hc hh h5 hl hs h38
    obtain ⟨m, rfl⟩ : ∃ z, m = z + 1 := ⟨m - 1, by omega⟩
    unfold ye_hs at hh
    cases q : ye_h1 (ψ 7 a) st.length with
    | none => rw [q] at hh; cases hh
    | some h1 =>
      rw [q] at hh
      simp only at hh
      obtain ⟨o, r, hc0⟩ := hc 0 (by omega)
      rw [Nat.add_zero] at hc0
      have hst : mo_worked_L7 F (m + 1) ψ (Int32.ofNat (a + (n + 1))) (Int32.ofNat a) = qb1 (rr_one F ψ (ψ 7 a) (ψ 8 a)) fun ψ1 => mo_worked_L7 F m ψ1 (Int32.ofNat (a + (n + 1))) (Int32.ofNat (a + 1)) := by
        conv => lhs; unfold mo_worked_L7
        rw [if_neg (by rw [ya_le (by omega) (by omega)]; omega), if_neg (by simp [h38]), ya_in (by omega) (by omega), ya_nn (by omega), ya_add1]
        simp only [yg1]
        unfold rr_one
        by_cases c0 : ψ 7 a = 0
        · rw [if_neg (by simp [c0]), if_neg (by simp [c0])]
        · rw [if_pos c0, if_pos c0]
          by_cases c1 : ψ 7 a = 1
          · rw [if_neg (by simp [c1]), if_neg (by simp [c1])]
            cases qm_in (ψ 8 a) 15 with
            | false => rfl
            | true => rfl
          · rw [if_pos c1, if_pos c1]
      rcases rr_1 (F := F) (mk := mk) hm hc0 h38 h5 hl hs q with ⟨st1, ψ1, e1, e2, p5, ps, pl, pf, p9⟩ | ⟨e1, ψ1, e2, p9, pf⟩
      · rw [e2] at hst
        simp only [yb1] at hst
        have hl1 : st1.length ≤ 64 := by
          obtain ⟨k1, k2, k3⟩ := rv_h1 q hl
          by_cases c01 : ψ 7 a = 0 ∨ ψ 7 a = 1
          · have := k1 c01; omega
          · by_cases c23 : ψ 7 a = 2 ∨ ψ 7 a = 3
            · have := k2 c23; omega
            · have := k3 c01 c23; omega
        have e7 : ψ1 7 = ψ 7 := by funext j; exact pf 7 j (by omega) (by omega)
        have e8 : ψ1 8 = ψ 8 := by funext j; exact pf 8 j (by omega) (by omega)
        have e17 : ψ1 17 = ψ 17 := by funext j; exact pf 17 j (by omega) (by omega)
        rw [← pl, ← e7] at hh
        rcases ih (a + 1) h' m st1 ψ1 (by omega) (by omega) (by rw [pf 2 0 (by omega) (by omega)]; exact hm) (fun i hi => by
          rw [e7, e8, show a + 1 + i = a + (i + 1) by omega]
          exact hc (i + 1) (by omega)) hh p5 hl1 ps p9 with ⟨st2, ψ2, r1, r2, r3, r4, r5, r6, r7⟩ | ⟨r1, ψ2, r2, r3, r4⟩
        · rw [show a + 1 + n = a + (n + 1) by omega] at r2
          rw [e7, e8, e17] at r1
          refine Or.inl ⟨st2, ψ2, ?_, hst.trans r2, r3, r4, r5, r6, fun x j y1 y2 => (r7 x j y1 y2).trans (pf x j y1 y2)⟩
          show (match rv_1 mk (ψ 17) (ψ 7 a) (ψ 8 a) st with | none => none | some st' => rv_n mk (ψ 17) (ψ 7) (ψ 8) (a + 1) n st') = some st2
          rw [e1]; exact r1
        · rw [show a + 1 + n = a + (n + 1) by omega] at r2
          rw [e7, e8, e17] at r1
          refine Or.inr ⟨?_, ψ2, hst.trans r2, r3, fun x j y1 y2 => (r4 x j y1 y2).trans (pf x j y1 y2)⟩
          show (match rv_1 mk (ψ 17) (ψ 7 a) (ψ 8 a) st with | none => none | some st' => rv_n mk (ψ 17) (ψ 7) (ψ 8) (a + 1) n st') = none
          rw [e1]; exact r1
      · rw [e2] at hst
        simp only [yb1] at hst
        obtain ⟨m, rfl⟩ : ∃ z, m = z + 1 := ⟨m - 1, by omega⟩
        refine Or.inr ⟨?_, ψ1, ?_, p9, pf⟩
        · show (match rv_1 mk (ψ 17) (ψ 7 a) (ψ 8 a) st with | none => none | some st' => rv_n mk (ψ 17) (ψ 7) (ψ 8) (a + 1) n st') = none
          rw [e1]
        · rw [hst]
          unfold mo_worked_L7 mo_worked_L86
          have : ¬ ψ1 0 38 = -1 := by rw [p9]; decide
          rw [if_pos this]
          split
          · rfl
          · rfl
theorem rv_cg {mk : Int32} {sl sl' : Nat → Int32} {C V : Nat → Int32} : ∀ (n a : Nat) (st : List Int32), (∀ i, i < n → C (a + i) = 1 → sl (V (a + i)).toNatClampNeg = sl' (V (a + i)).toNatClampNeg) → rv_n mk sl C V a n st = rv_n mk sl' C V a n st := by
  intro n
  induction n with
  | zero => intro a st _; rfl
  | succ n ih =>
    intro a st h
    have h0 := h 0 (by omega)
    rw [Nat.add_zero] at h0
    have e : rv_1 mk sl (C a) (V a) st = rv_1 mk sl' (C a) (V a) st := by
      unfold rv_1
      by_cases c0 : C a = 0
      · rw [if_pos c0, if_pos c0]
      · rw [if_neg c0, if_neg c0]
        by_cases c1 : C a = 1
        · rw [if_pos c1, if_pos c1, h0 c1]
        · rw [if_neg c1, if_neg c1]
    unfold rv_n
    rw [e]
    cases rv_1 mk sl' (C a) (V a) st with
    | none => rfl
    | some st1 =>
      simp only
      exact ih (a + 1) st1 (fun i hi => by
        rw [show a + 1 + i = a + (i + 1) by omega]
        exact h (i + 1) (by omega))
/-- where both sides' code stands while they run -/
def rn_Z (φ ψ : qm_F) : qm_F := fun r i => if r = 0 then ψ 7 i else if r = 1 then ψ 8 i else if r = 2 then φ 20 i else if r = 3 then φ 21 i else φ 22 i
/-- an E on both sides: the same value, or / % by 0 -/
theorem rn_E (hF : 4000 ≤ F) {φ ψ : qm_F} {sz M p q : Nat} {u v : Int32} (hT : sz ≤ nT) (hT2 : sz ≤ 801) (hM : M ≤ 800) (hE : yl_E (rn_Z φ ψ) M u v p q) (hq : q ≤ sz) (hmk : φ 26 1 = (1 <<< ((ψ 2 0) &&& 31)) - 1) (hz : φ 14 13 = Int32.ofNat sz) (hsl : ∀ j, j < 15 → φ 27 j = ψ 17 j) (h5 : φ 26 5 = 0) (h6 : φ 26 6 = Int32.ofNat p) (h9 : φ 26 9 = -1) (h38 : ψ 0 38 = -1) :
    (∃ x φ' ψ', rx_MV F nR nN nT gg (q - p) φ φ' ∧ φ' 26 5 = 1 ∧ φ' 29 0 = x ∧ φ' 26 6 = Int32.ofNat q ∧ φ' 26 9 = -1 ∧ rx_g φ φ' ∧ mo_worked F ψ u v = some (x, ψ') ∧ ψ' 0 38 = -1 ∧ rr_f ψ ψ') ∨
    (∃ k φ' ψ', k ≤ q - p ∧ rx_MV F nR nN nT gg k φ φ' ∧ φ' 26 9 = 3 ∧ rx_g φ φ' ∧ mo_worked F ψ u v = some (0, ψ') ∧ ψ' 0 38 = 3 ∧ rr_f ψ ψ') := by
  obtain ⟨c0, len, a1, a2, a3, a4, a5, a6⟩ := hE
  have hcg : rv_n ((1 <<< ((ψ 2 0) &&& 31)) - 1) (φ 27) (ψ 7) (ψ 8) c0 len [] = rv_n ((1 <<< ((ψ 2 0) &&& 31)) - 1) (ψ 17) (ψ 7) (ψ 8) c0 len [] := by
    refine rv_cg len c0 [] (fun i hi h1 => ?_)
    have := a5 i hi
    have h1' : ψ 7 (c0 + i) = 1 := h1
    rcases this with ⟨z, _⟩ | ⟨_, _, _, k, hk, hv⟩ | ⟨z, _⟩ | ⟨z, _⟩ | ⟨_, hb⟩
    · have z' : ψ 7 (c0 + i) = 0 := z
      rw [z'] at h1'; exact absurd h1' (by decide)
    · have hv' : ψ 8 (c0 + i) = Int32.ofNat k := hv
      rw [hv', ya_nn (by omega)]
      exact hsl k hk
    · have z' : ψ 7 (c0 + i) = 2 := z
      rw [z'] at h1'; exact absurd h1' (by decide)
    · have z' : ψ 7 (c0 + i) = 3 := z
      rw [z'] at h1'; exact absurd h1' (by decide)
    · have hb' : ye_bin (ψ 7 (c0 + i)) := hb
      rw [h1'] at hb'
      exact absurd hb' (by unfold ye_bin; decide)
  have hx := rx_seg (F := F) (nR := nR) (nN := nN) (nT := nT) (gg := gg) (mk := (1 <<< ((ψ 2 0) &&& 31)) - 1) (C := ψ 7) (V := ψ 8) hT hT2 len c0 p 1 [] φ hmk hz (fun i hi => a5 i hi) a6 h5 (by simp) trivial h6 h9 (by omega)
  have fw : rr_f ψ (qm_u ψ 0 36 0) := by
    intro x j y1 y2
    unfold qm_u
    repeat' split
    all_goals first | rfl | omega
  have hr := rr_seg (F := F) (mk := (1 <<< ((ψ 2 0) &&& 31)) - 1) len c0 1 F [] (qm_u ψ 0 36 0) (by omega) (by omega) rfl (fun i hi => ⟨_, _, a5 i hi⟩) a6 rfl (by simp) trivial h38
  have hw : mo_worked F ψ u v = mo_worked_L7 F F (qm_u ψ 0 36 0) (Int32.ofNat (c0 + len)) (Int32.ofNat c0) := by
    unfold mo_worked
    rw [a2, a3]
  have el : q - p = len := by omega
  rw [el, hw]
  rcases hx with ⟨st1, φ1, r1, r2, r3, r4, r5, r6, r7, r8⟩ | ⟨r1, k, φ1, r2, r3, r4, r5⟩
  · rcases hr with ⟨st2, ψ2, s1, s2, s3, s4, s5, s6, s7⟩ | ⟨s1, _⟩
    · have est : st1 = st2 := by
        have s1' : rv_n ((1 <<< ((ψ 2 0) &&& 31)) - 1) (ψ 17) (ψ 7) (ψ 8) c0 len [] = some st2 := s1
        rw [hcg, s1'] at r1
        exact (Option.some.inj r1).symm
      subst est
      match st1, r3, r4, r5, s3, s4 with
      | [], _, _, r5, _, _ => simp at r5
      | _ :: _ :: _, _, _, r5, _, _ => simp at r5
      | [x], r3, r4, r5, s3, s4 =>
        have e86 : mo_worked_L86 F ψ2 = some (x, qm_u ψ2 0 36 0) := by
          unfold mo_worked_L86
          rw [if_neg (by simp [s6]), rr_pop s3 (by simp) s4]
          rfl
        refine Or.inl ⟨x, φ1, qm_u ψ2 0 36 0, r2, r3, r4.1, by rw [r6]; congr 1; omega, r7, r8, s2.trans e86, s6, ?_⟩
        intro a j y1 y2
        have : (qm_u ψ2 0 36 0) a j = ψ2 a j := by
          unfold qm_u
          repeat' split
          all_goals first | rfl | omega
        rw [this, s7 a j y1 y2, fw a j y1 y2]
    · have s1' : rv_n ((1 <<< ((ψ 2 0) &&& 31)) - 1) (ψ 17) (ψ 7) (ψ 8) c0 len [] = none := s1
      rw [hcg, s1'] at r1
      cases r1
  · rcases hr with ⟨st2, ψ2, s1, _⟩ | ⟨s1, ψ2, s2, s3, s4⟩
    · have s1' : rv_n ((1 <<< ((ψ 2 0) &&& 31)) - 1) (ψ 17) (ψ 7) (ψ 8) c0 len [] = some st2 := s1
      rw [hcg, s1'] at r1
      cases r1
    · exact Or.inr ⟨k, φ1, ψ2, r2, r3, r4, r5, s2, s3, fun a j y1 y2 => by rw [s4 a j y1 y2, fw a j y1 y2]⟩
end R1
