/-! SEMANTICS: let; statements -/
section Y14
variable {F nR n cnt t sz cd ns br lt s p : Nat} {b : Nat → Int32} {T φ ψ : qm_F} {L : List (Nat × Nat)}
def ys_la (φ : qm_F) (l : Nat) (w : Int32) (k : Nat) : qm_F := qm_u (qm_u (qm_u φ 12 l w) 13 l (Int32.ofNat k)) 11 2 (Int32.ofNat (l + 1))
theorem ys_laf (φ : qm_F) (l : Nat) (w : Int32) (k : Nat) : ∀ a j, ¬ (a = 11 ∧ j = 2) → ¬ ((a = 12 ∨ a = 13) ∧ j = l) → ys_la φ l w k a j = φ a j := by
  intro a j h1 h2
  unfold ys_la qm_u
  repeat' split
  all_goals first | rfl | omega
theorem ys_addx (hN : φ 11 2 = Int32.ofNat L.length) (hl : L.length ≤ 14) (w : Int32) (k : Nat) : na_add F nR n cnt φ w (Int32.ofNat k) = some (ys_la φ L.length w k) := by
  unfold na_add ys_la
  rw [hN, if_neg (by rw [show (15 : Int32) = Int32.ofNat 15 from rfl, ya_le (by omega) (by omega)]; omega), ya_in (by omega) (by omega), ya_nn (by omega), ya_add1]
  rfl
/-- a name more -/
theorem yn_add {φ' ψ' : qm_F} {τ k : Nat} (h : yn_NM cnt T L φ ψ) (hl : L.length ≤ 14) (hτ : τ < cnt) (h9 : T 0 τ = 97) (hno : ∀ p, p ∈ L → T 3 p.2 ≠ T 3 τ) (hk : k < 15) (hks : ∀ p, p ∈ L → p.1 ≠ k)
    (x1 : φ' 11 2 = Int32.ofNat (L.length + 1)) (x2 : φ' 12 L.length = T 3 τ) (x3 : φ' 13 L.length = Int32.ofNat k) (x4 : ∀ a j, (a = 12 ∨ a = 13) → j < L.length → φ' a j = φ a j) (y1 : ψ' 3 (15 + k) = T 4 τ) (y2 : ∀ j, 15 ≤ j → j ≠ 15 + k → ψ' 3 j = ψ 3 j) : yn_NM cnt T (L ++ [(k, τ)]) φ' ψ' := by
  obtain ⟨a1, a2, a3, a4, a5⟩ := h
  have hlen : (L ++ [(k, τ)]).length = L.length + 1 := by simp
  have key : ∀ (i : Nat) (q : Nat × Nat), (L ++ [(k, τ)])[i]? = some q → (i < L.length ∧ L[i]? = some q) ∨ (i = L.length ∧ q = (k, τ)) := by
    intro i q hq
    by_cases z : i < L.length
    · rw [List.getElem?_append_left z] at hq
      exact Or.inl ⟨z, hq⟩
    · rw [List.getElem?_append_right (by omega)] at hq
      have : i - L.length = 0 := by
        have := (List.getElem?_eq_some_iff.mp hq).1
        simp at this
        omega
      rw [this] at hq
      simp at hq
      exact Or.inr ⟨by omega, hq.symm⟩
  refine ⟨by rw [hlen]; exact x1, by rw [hlen]; omega, fun i q hq => ?_, fun j hj hp => ?_, fun i j q r hq hr hh => ?_⟩
  · rcases key i q hq with ⟨z1, z2⟩ | ⟨z1, z2⟩
    · obtain ⟨b1, b2, b3, b4, b5, b6⟩ := a3 i q z2
      refine ⟨by rw [x4 12 i (by omega) z1]; exact b1, by rw [x4 13 i (by omega) z1]; exact b2, b3, b4, b5, ?_⟩
      rw [y2 _ (by omega) (fun z => hks q (List.mem_of_getElem? z2) (by omega))]
      exact b6
    · subst z1 z2
      exact ⟨x2, x3, hk, hτ, h9, y1⟩
  · have h1 : j ≠ k := fun z => hp (k, τ) (by simp) z.symm
    rw [y2 _ (by omega) (by omega)]
    exact a4 j hj (fun p hp' => hp p (by simp [hp']))
  · rcases key i q hq with ⟨z1, z2⟩ | ⟨z1, z2⟩
    · rcases key j r hr with ⟨w1, w2⟩ | ⟨w1, w2⟩
      · exact a5 i j q r z2 w2 hh
      · subst w2
        rcases hh with hh | hh
        · exact absurd hh (hno q (List.mem_of_getElem? z2))
        · exact absurd hh (hks q (List.mem_of_getElem? z2))
    · rcases key j r hr with ⟨w1, w2⟩ | ⟨w1, w2⟩
      · subst z2
        rcases hh with hh | hh
        · exact absurd hh.symm (hno r (List.mem_of_getElem? w2))
        · exact absurd hh.symm (hks r (List.mem_of_getElem? w2))
      · omega
theorem ys_letIn {τ : Nat} (h : ys_S n cnt b T t sz cd ns br lt L φ ψ) (hlt : lt < 3) (hτ : τ < cnt) (h9 : T 0 τ = 97) (hno : ∀ p, p ∈ L → T 3 p.2 ≠ T 3 τ) : ys_S n cnt b T t sz cd ns br (lt + 1) (L ++ [(12 + lt, τ)]) (ys_la φ L.length (T 3 τ) (12 + lt)) (qm_u (qm_u ψ 3 (27 + lt) (T 4 τ)) 0 30 (Int32.ofNat (lt + 1))) := by
  obtain ⟨a1, ⟨b1, b2, b3, b4, b5⟩, ⟨⟨c1, c2⟩, ⟨d1, d2, d3, d4, d5⟩, c3, c4, c5⟩, a4, a5, a6, a7, a8, a9, a10⟩ := h
  refine ⟨a1, ⟨b1, b2, b3, b4, b5⟩, ⟨⟨c1, c2⟩, ⟨d1, d2, d3, d4, d5⟩, c3, c4, c5⟩, ?_, a5, a6, a7, rfl, ?_, ?_⟩
  · refine yn_add a4 (by omega) hτ h9 hno (by omega) (fun p hp => by have := a9 p hp; omega) rfl ?_ ?_ ?_ ?_ ?_
    · simp [ys_la, qm_u]
    · simp [ys_la, qm_u]
    · intro a j ha hj
      exact ys_laf _ _ _ _ a j (by omega) (by omega)
    · have e : 15 + (12 + lt) = 27 + lt := by omega
      rw [e]
      simp [qm_u]
    · intro j hj hne
      have : j ≠ 27 + lt := by omega
      simp [qm_u, this]
  · intro p hp
    rcases List.mem_append.mp hp with hp | hp
    · have := a9 p hp; omega
    · simp at hp; subst hp; show 12 + lt < _; omega
  · simp; omega
theorem ys_letOut {τ : Nat} (h : ys_S n cnt b T t sz cd ns br (lt + 1) (L ++ [(12 + lt, τ)]) φ ψ) (hlt : lt < 3) (hL : ∀ p, p ∈ L → p.1 < 12 + lt) (hL2 : L.length ≤ 12 + lt) : ys_S n cnt b T t sz cd ns br lt L (qm_u φ 11 2 (Int32.ofNat L.length)) (qm_u (qm_u ψ 0 30 (Int32.ofNat lt)) 3 (27 + lt) 0) ∧ na_removeLatest F nR n cnt φ = some (qm_u φ 11 2 (Int32.ofNat L.length)) := by
  obtain ⟨a1, ⟨b1, b2, b3, b4, b5⟩, ⟨⟨c1, c2⟩, ⟨d1, d2, d3, d4, d5⟩, c3, c4, c5⟩, ⟨n1, n2, n3, n4, n5⟩, a5, a6, a7, a8, a9, a10⟩ := h
  have hlen : (L ++ [(12 + lt, τ)]).length = L.length + 1 := by simp
  have up : ∀ (i : Nat) (q : Nat × Nat), L[i]? = some q → (L ++ [(12 + lt, τ)])[i]? = some q := by
    intro i q hq
    rw [List.getElem?_append_left (List.getElem?_eq_some_iff.mp hq).1]
    exact hq
  constructor
  · refine ⟨a1, ⟨b1, b2, b3, b4, b5⟩, ⟨⟨c1, c2⟩, ⟨d1, d2, d3, d4, d5⟩, c3, c4, c5⟩, ⟨rfl, by omega, fun i q hq => ?_, fun k hk hp => ?_, fun i j q r hq hr hh => n5 i j q r (up i q hq) (up j r hr) hh⟩, a5, a6, a7, rfl, hL, hL2⟩
    · obtain ⟨m1, m2, m3, m4, m5, m6⟩ := n3 i q (up i q hq)
      have := hL q (List.mem_of_getElem? hq)
      have hne : 15 + q.1 ≠ 27 + lt := by omega
      exact ⟨m1, m2, m3, m4, m5, by rw [← m6]; simp [qm_u, hne]⟩
    · by_cases q : k = 12 + lt
      · subst q
        have e : 15 + (12 + lt) = 27 + lt := by omega
        rw [e]
        simp [qm_u]
      · have hne : 15 + k ≠ 27 + lt := by omega
        have := n4 k hk (fun p hp' => by
          rcases List.mem_append.mp hp' with hp' | hp'
          · exact hp p hp'
          · simp at hp'; subst hp'; exact fun z => q z.symm)
        rw [← this]
        simp [qm_u, hne]
  · unfold na_removeLatest
    rw [n1, hlen, if_neg (by rw [show (0 : Int32) = Int32.ofNat 0 from rfl, ya_le (by omega) (by omega)]; omega), ya_sub1 (by omega), Nat.add_sub_cancel]
theorem ys_rem0 (φ : qm_F) : ∃ φ', na_removeLatest F nR n cnt φ = some φ' ∧ ∀ a j, ¬ (a = 11 ∧ j = 2) → φ' a j = φ a j := by
  unfold na_removeLatest
  split
  · exact ⟨φ, rfl, fun _ _ _ => rfl⟩
  · refine ⟨_, rfl, fun a j h => ?_⟩
    unfold qm_u
    repeat' split
    all_goals first | rfl | omega
/-- let NAME = E { } -/
theorem ys_bLet (hF : 2000 ≤ F) (hK : yk_TK F n cnt b T) {gx gm : Nat → qm_F → Int32 → Int32 → Option (Int32 × qm_F)} (hlt : lt < 3) (hb : ∀ τ, ys_brc n cnt b T (fun φ => gx 2 φ (Int32.ofNat br) (Int32.ofNat (lt + 1))) (fun ψ => gm 0 ψ 0 0) (L ++ [(12 + lt, τ)]) br (lt + 1)) (h : ys_S n cnt b T t (p + 1) cd (s + 1) br lt L φ ψ) (hs : s < 24) (hsz : p ≤ t) (hcd : cd ≤ t) (hk : T 0 t = 139) (h0 : ψ 6 (144 + 6 * s) = 5) :
    ys_bdy n cnt b T L br lt 5 φ ψ t p cd s (pa_letStatement F nR n cnt gx (qm_u φ 10 3 (Int32.ofNat (t + 1))) (Int32.ofNat br) (Int32.ofNat lt)) (mo_letHere F gm ψ (Int32.ofNat s)) := by
  have hcn := yk_cn hK
  obtain ⟨ψ1, e1, S1, f1⟩ := ys_next hK h (by rw [hk]; decide) (by rw [hk]; decide)
  have G1 := ys_Ggx h S1 (ys_xgx _) (ys_mgm f1) (fun z => by rw [hk] at z; exact absurd z (by decide)) (144 + 6 * s + 1)
  have i1 := ys_ix s 1 hs (by omega)
  unfold pa_letStatement mo_letHere
  rw [e1]
  simp only [yb1]
  rcases ys_new (nR := nR) hF hK S1 with ⟨q97, hno, x1, x2⟩ | ⟨φ2, ψ2, x1, x2, hbad⟩
  · rw [x1, x2]
    simp only [yb2]
    rw [if_pos (by decide), if_pos (by decide)]
    have hw : ψ1 0 8 = T 4 (t + 1) := S1.2.2.1.2.1.2.2.2.2 (by rw [q97]; decide)
    have S1' : ys_S n cnt b T (t + 1) (p + 1) cd (s + 1) br lt L (qm_u (qm_u φ 10 3 (Int32.ofNat (t + 1))) 10 4 (T 3 (t + 1))) ψ1 := S1.mv S1.1 (Nat.le_refl _) rfl S1.2.2.1.2.1 S1.2.2.1.2.2.1 (ys_u104 _) (fun _ _ _ => rfl)
    obtain ⟨ψ2, e2, S2, f2⟩ := ys_next hK S1' (by rw [q97]; decide) (by rw [q97]; decide)
    have gx2 : ys_gx (qm_u φ 10 3 (Int32.ofNat (t + 1))) (qm_u (qm_u (qm_u φ 10 3 (Int32.ofNat (t + 1))) 10 4 (T 3 (t + 1))) 10 3 (Int32.ofNat (t + 1 + 1))) := fun a j hh => (ys_xgx _ a j hh).trans (ys_u104 _ a j hh)
    have G2 := G1.trans (ys_Ggx S1 S2 gx2 (ys_mgm f2) (fun _ => yn_nomk hK S1.2.2.2.1 S1.1 q97 (fun p hp z => absurd z (hno p hp))) (144 + 6 * s + 1)) (Nat.le_refl _)
    rw [e2, hw]
    simp only [yb1]
    have v4 : (qm_u (qm_u (qm_u φ 10 3 (Int32.ofNat (t + 1))) 10 4 (T 3 (t + 1))) 10 3 (Int32.ofNat (t + 1 + 1))) 10 4 = T 3 (t + 1) := rfl
    rw [v4]
    rcases ys_takes (nR := nR) hK S2 61 (by decide) with ⟨q, φ3, ψ3, x3, x4, S3, gx3, gm3⟩ | ⟨q, φ3, ψ3, x3, x4, hbad⟩
    · rw [x3, x4]
      simp only [yb2]
      rw [if_neg (by decide), if_neg (by decide)]
      have G3 := G2.trans (ys_Ggx S2 S3 gx3 gm3 (fun z => by rw [q] at z; exact absurd z (by decide)) (144 + 6 * s + 1)) (Nat.le_refl _)
      rcases ys_E (nR := nR) hF hK S3 hs (by omega) (by omega) with ⟨φ4, ψ4, t4, len, x5, x6, l1, l2, S4, fx4, fm4, hE, mk4⟩ | ⟨φ4, ψ4, x5, x6, hbad⟩
      · have G4 := G3.trans (ys_GE S4 (by omega) fx4 fm4 mk4 (by omega)) (Nat.le_refl _)
        rw [x5, x6]
        simp only [yb2]
        rw [if_pos (by decide), if_pos (by decide)]
        have ht4 := S4.1
        have e12 : (12 : Int32) + Int32.ofNat lt = Int32.ofNat (12 + lt) := ya_add 12 lt
        have e27 : (15 : Int32) * 1 + 12 + Int32.ofNat lt = Int32.ofNat (27 + lt) := ya_add 27 lt
        obtain ⟨φ5, x7, S5, ex5, r1, r2, r3⟩ := ys_emit (nR := nR) hK S4 (by omega) 3 (Int32.ofNat (12 + lt)) 0
        have G5 := G4.trans (ys_Gem S5 ex5 (144 + 6 * s + 1)) (Nat.le_refl _)
        have hNl : φ5 11 2 = Int32.ofNat L.length := S5.2.2.2.1.1
        have hl12 := S5.2.2.2.2.2.2.2.2.2
        rw [ys_at S5.2.2.1.2.2.2.1, S5.2.2.1.2.2.2.1, S5.2.2.2.2.2.2.2.1, e12, e27, x7]
        simp only [yb1, yb2]
        rw [ys_addx hNl (by omega), show (1 : Int32) = Int32.ofNat 1 from rfl, i1.1, i1.2, ya_in (by omega) (by omega), ya_nn (by omega), ya_add]
        simp only [yb1, yg1]
        have S6 := ys_letIn (ys_w6 S5 (144 + 6 * s + 1) (Int32.ofNat (12 + lt))) hlt S1.1 q97 hno
        rcases hb (t + 1) _ _ t4 (p + 1 + len + 1) (cd + len) (s + 1) S6 (by omega) (by omega) (by omega) with ⟨φ7, ψ7, t7, sz7, cd7, ns7, x8, x9, G7, l3, l4, l5, l6, l7, l8, hY⟩ | ⟨φ7, ψ7, x8, x9, hbad⟩
        · dsimp only at x8 x9
          rw [x8, x9]
          simp only [yb2]
          obtain ⟨S7, g2, g3, g4, g5, g6, g7⟩ := G7
          obtain ⟨S8, x10⟩ := ys_letOut (F := F) (nR := nR) S7 hlt S5.2.2.2.2.2.2.2.2.1 S5.2.2.2.2.2.2.2.2.2
          rw [x10, S7.2.2.2.2.2.2.2.1, S7.2.2.1.2.2.2.1, ya_sub (by omega), Nat.add_sub_cancel]
          rw [e27, ya_in (by omega) (by omega), ya_nn (by omega)]
          simp only [yb1, yg1]
          rw [if_pos (by decide), yg01]
          simp only [yg1]
          have hLl : (L ++ [(12 + lt, t + 1)]).length = L.length + 1 := by simp
          rw [hLl] at g2
          have row : ∀ a j, (a = 20 ∨ a = 21 ∨ a = 22) → j < p + 1 + len + 1 → (qm_u φ7 11 2 (Int32.ofNat L.length)) a j = φ5 a j := fun a j ha hj => by
            have e0 : (qm_u φ7 11 2 (Int32.ofNat L.length)) a j = φ7 a j := by rcases ha with rfl | rfl | rfl <;> rfl
            rw [e0, g2 a j (by omega) (by omega) (by omega) (by omega) (by omega) (by omega), ys_laf _ _ _ _ a j (by omega) (by omega)]
          have mid : ∀ a j, ¬ (a = 3) → ¬ (a = 0 ∧ j = 30) → ¬ (a = 6 ∧ j = 144 + 6 * s + 1) → (qm_u (qm_u (qm_u ψ4 6 (144 + 6 * s + 1) (Int32.ofNat (12 + lt))) 3 (27 + lt) (T 4 (t + 1))) 0 30 (Int32.ofNat (lt + 1))) a j = ψ4 a j := by
            intro a j y1 y2 y3
            unfold qm_u
            repeat' split
            all_goals first | rfl | omega
          have fin : ∀ a j, ¬ (a = 3) → ¬ (a = 0 ∧ j = 30) → (qm_u (qm_u ψ7 0 30 (Int32.ofNat lt)) 3 (27 + lt) 0) a j = ψ7 a j := by
            intro a j y1 y2
            unfold qm_u
            repeat' split
            all_goals first | rfl | omega
          have fmA : ys_fm cd (144 + 6 * s + 1) lt ψ (qm_u (qm_u ψ7 0 30 (Int32.ofNat lt)) 3 (27 + lt) 0) := by
            intro a j y1 y2 y3 y4 y5
            have z1 : (qm_u (qm_u ψ7 0 30 (Int32.ofNat lt)) 3 (27 + lt) 0) a j = ψ7 a j := by
              unfold qm_u
              repeat' split
              all_goals first | rfl | omega
            have z2 : (qm_u (qm_u (qm_u ψ4 6 (144 + 6 * s + 1) (Int32.ofNat (12 + lt))) 3 (27 + lt) (T 4 (t + 1))) 0 30 (Int32.ofNat (lt + 1))) a j = ψ4 a j := by
              unfold qm_u
              repeat' split
              all_goals first | rfl | omega
            rw [z1, g3 a j y1 (by omega) y3 (by omega) (by omega), z2]
            exact G5.2.2.1 a j y1 y2 y3 y4 y5
          have fxA : ys_fx L.length t (p + 1) φ (qm_u φ7 11 2 (Int32.ofNat L.length)) := by
            intro a j y1 y2 y3 y4 y5 y6
            have z1 : (qm_u φ7 11 2 (Int32.ofNat L.length)) a j = φ7 a j := by
              unfold qm_u
              repeat' split
              all_goals first | rfl | omega
            have hz := G5.2.2.2.2.1
            have ht := G5.2.2.2.1
            rw [z1, g2 a j y1 y2 (by omega) (by omega) y5 (by omega), ys_laf _ _ _ _ a j (by omega) (by omega)]
            exact G5.2.1 a j y1 y2 y3 y4 y5 y6
          refine Or.inl ⟨_, _, t7, sz7, cd7, ns7, rfl, rfl, ⟨S8, fxA, fmA, by omega, by omega, by omega, ?_⟩, by omega, by omega, by omega, by omega, l7, fun S hS => Or.inr (Or.inr (Or.inr (Or.inr (Or.inr ⟨?_, l8, p + 1 + len, 12 + lt, ?_, ?_, ?_, ?_, by omega, g5, ?_⟩))))⟩
          · intro u h1 h2
            by_cases z : u < t4
            · refine (G5.2.2.2.2.2.2 u h1 z).fr ?_ ?_ (fun _ _ => rfl)
              · show φ7 6 u = φ5 6 u
                rw [g2 6 u (by omega) (by omega) (by omega) (by omega) (by omega) (by omega), ys_laf _ _ _ _ 6 u (by omega) (by omega)]
              · show φ7 9 u = φ5 9 u
                rw [g2 9 u (by omega) (by omega) (by omega) (by omega) (by omega) (by omega), ys_laf _ _ _ _ 9 u (by omega) (by omega)]
            · refine (g7 u (by omega) h2).fr rfl rfl (fun k hk => ?_)
              have e0 : (qm_u (qm_u (qm_u ψ4 6 (144 + 6 * s + 1) (Int32.ofNat (12 + lt))) 3 (27 + lt) (T 4 (t + 1))) 0 30 (Int32.ofNat (lt + 1))) 3 (18 + k) = ψ4 3 (18 + k) := by
                have : 18 + k ≠ 27 + lt := by omega
                simp [qm_u, this]
              rw [e0]
              exact (G5.2.2.1 3 _ (by omega) (by omega) (by omega) (by omega) (by omega)).symm
          · rw [hS.1 0 (by omega)]
            show (qm_u (qm_u ψ7 0 30 (Int32.ofNat lt)) 3 (27 + lt) 0) 6 (144 + 6 * s + 0) = 5
            rw [fin 6 _ (by omega) (by omega), g3 6 _ (by omega) (by omega) (by omega) (by omega) (by omega), mid 6 _ (by omega) (by omega) (by omega), fm4 6 _ (by omega) (by omega) (by omega), gm3 6 _ (by omega), f2 6 _ (by omega), f1 6 _ (by omega)]
            exact h0
          · rw [hS.1 2 (by omega), hS.1 3 (by omega)]
            have ea : ∀ k, k = 2 ∨ k = 3 → ys_T (qm_u (qm_u ψ7 0 30 (Int32.ofNat lt)) 3 (27 + lt) 0) s k = ys_T ψ4 s k := by
              intro k hk
              show (qm_u (qm_u ψ7 0 30 (Int32.ofNat lt)) 3 (27 + lt) 0) 6 _ = ψ4 6 _
              rw [fin 6 _ (by omega) (by omega), g3 6 _ (by omega) (by omega) (by omega) (by omega) (by omega), mid 6 _ (by omega) (by omega) (by omega)]
            rw [ea 2 (by omega), ea 3 (by omega)]
            refine hE.cg g6 (fun i hi => ⟨?_, ?_⟩) (fun i z1 z2 => ⟨?_, ?_⟩)
            · show (qm_u (qm_u ψ7 0 30 (Int32.ofNat lt)) 3 (27 + lt) 0) 7 _ = ψ4 7 _
              rw [fin 7 _ (by omega) (by omega), g3 7 _ (by omega) (by omega) (by omega) (by omega) (by omega), mid 7 _ (by omega) (by omega) (by omega)]
            · show (qm_u (qm_u ψ7 0 30 (Int32.ofNat lt)) 3 (27 + lt) 0) 8 _ = ψ4 8 _
              rw [fin 8 _ (by omega) (by omega), g3 8 _ (by omega) (by omega) (by omega) (by omega) (by omega), mid 8 _ (by omega) (by omega) (by omega)]
            · show (qm_u φ7 11 2 (Int32.ofNat L.length)) 20 i = φ4 20 i
              rw [row 20 i (by omega) (by omega), ex5 20 i (by omega) (by omega)]
            · show (qm_u φ7 11 2 (Int32.ofNat L.length)) 21 i = φ4 21 i
              rw [row 21 i (by omega) (by omega), ex5 21 i (by omega) (by omega)]
          · show (qm_u φ7 11 2 (Int32.ofNat L.length)) 20 _ = 3
            rw [row 20 _ (by omega) (by omega)]
            exact r1
          · show (qm_u φ7 11 2 (Int32.ofNat L.length)) 21 _ = _
            rw [row 21 _ (by omega) (by omega)]
            exact r2
          · rw [hS.1 1 (by omega)]
            show (qm_u (qm_u ψ7 0 30 (Int32.ofNat lt)) 3 (27 + lt) 0) 6 (144 + 6 * s + 1) = _
            rw [fin 6 _ (by omega) (by omega), g3 6 _ (by omega) (by omega) (by omega) (by omega) (by omega)]
            simp [qm_u]
          · exact hY.cg (Nat.le_refl _) (fun i _ => ⟨fin 7 _ (by omega) (by omega), fin 8 _ (by omega) (by omega)⟩) (fun i z1 z2 => ⟨rfl, rfl, rfl⟩) (fun s1 z1 z2 k hk => (hS.2.2 s1 (by omega) z2 k hk).trans (fin 6 _ (by omega) (by omega)))
        · dsimp only at x8 x9
          rw [x8, x9]
          simp only [yb2]
          obtain ⟨φ8, x10, f8⟩ := ys_rem0 (F := F) (nR := nR) (n := n) (cnt := cnt) φ7
          rw [x10, if_neg (by decide)]
          simp only [yb1, yg0, yg1]
          refine Or.inr ⟨φ8, ψ7, rfl, rfl, ?_, hbad.2.1, ?_, ?_⟩
          · rw [f8 10 5 (by omega)]; exact hbad.1
          · intro a j ha
            rw [f8 a j (by omega), hbad.2.2.1 a j ha, ys_laf _ _ _ _ a j (by omega) (by omega)]
            exact G5.2.1.lo a j ha
          · intro a j y1 y2 y3 y4 y5 y6
            rw [hbad.2.2.2 a j y1 y2 y3 y4 y5 y6]
            have e0 : (qm_u (qm_u (qm_u ψ4 6 (144 + 6 * s + 1) (Int32.ofNat (12 + lt))) 3 (27 + lt) (T 4 (t + 1))) 0 30 (Int32.ofNat (lt + 1))) a j = ψ4 a j := by
              unfold qm_u
              repeat' split
              all_goals first | rfl | omega
            rw [e0]
            exact G5.2.2.1.cf (by omega) a j y1 y2 y3 y4 y5 y6
      · rw [x5, x6]
        simp only [yb2]
        rw [if_neg (by decide), if_neg (by decide)]
        exact Or.inr ⟨φ4, ψ4, rfl, rfl, hbad.pre G3.2.1.lo (G3.2.2.1.cf (by omega))⟩
    · rw [x3, x4]
      simp only [yb2]
      rw [if_pos (by first | trivial | decide), if_pos (by first | trivial | decide)]
      exact Or.inr ⟨φ3, ψ3, rfl, rfl, hbad.pre G2.2.1.lo (G2.2.2.1.cf (by omega))⟩
  · rw [x1, x2]
    simp only [yb2]
    rw [if_neg (by decide), if_neg (by decide)]
    exact Or.inr ⟨φ2, ψ2, rfl, rfl, hbad.pre G1.2.1.lo (G1.2.2.1.cf (by omega))⟩
end Y14
