/-! SEMANTICS: a sketch that has been read gives the search's premises -/
section S15
variable {F nR nN nT gg nI : Nat} {φ0 ψ0 φ ψ : qm_F} {W : Nat} {Ib Hb Hr : List Nat} {v ns M p r : Nat}
theorem rs_D.st (hD : rs_D nT W Ib Hb Hr v ns M p r φ0 ψ0) (hx : sx_st φ0 φ) (hm : sm_st ψ0 ψ) : rs_D nT W Ib Hb Hr v ns M p r φ ψ := by
  obtain ⟨⟨w1, w2, w3, w4, w5, w6, w7, w8, w9, w10, w11⟩, ⟨x0, x1, x2, x3, x4, x5, x6, x13, xm, x20⟩, ⟨y0, y1, y2, y3, y4, y5, y6⟩, z1, z2, z3, hns, hM, hT, hT2, hY, hpr, hE⟩ := hD
  have e : ∀ a j, 4 ≤ a → a ≤ 24 → φ a j = φ0 a j := hx.1
  refine ⟨⟨w1, w2, w3, w4, w5, w6, w7, w8, w9, w10, w11⟩, ⟨?_, ?_, ?_, ?_, ?_, ?_, ?_, ?_, ?_, ?_⟩, ⟨?_, ?_, ?_, ?_, ?_, ?_, ?_⟩, fun k x hk => ?_, fun k x hk => ?_, fun k x hk => ?_, hns, hM, hT, hT2, ?_, hpr, ?_⟩
  · rw [e _ _ (by omega) (by omega)]; exact x0
  · rw [e _ _ (by omega) (by omega)]; exact x1
  · rw [e _ _ (by omega) (by omega)]; exact x2
  · rw [e _ _ (by omega) (by omega)]; exact x3
  · rw [e _ _ (by omega) (by omega)]; exact x4
  · rw [e _ _ (by omega) (by omega)]; exact x5
  · rw [e _ _ (by omega) (by omega)]; exact x6
  · rw [e _ _ (by omega) (by omega)]; exact x13
  · rw [hx.2]; exact xm
  · rw [e _ _ (by omega) (by omega)]; exact x20
  · rw [hm _ _ (by omega)]; exact y0
  · rw [hm _ _ (by omega)]; exact y1
  · rw [hm _ _ (by omega)]; exact y2
  · rw [hm _ _ (by omega)]; exact y3
  · rw [hm _ _ (by omega)]; exact y4
  · rw [hm _ _ (by omega)]; exact y5
  · rw [hm _ _ (by omega)]; exact y6
  · have := (List.getElem?_eq_some_iff.mp hk).1
    rw [e _ _ (by omega) (by omega), hm _ _ (by omega)]; exact z1 k x hk
  · have := (List.getElem?_eq_some_iff.mp hk).1
    rw [e _ _ (by omega) (by omega), hm _ _ (by omega)]; exact z2 k x hk
  · have := (List.getElem?_eq_some_iff.mp hk).1
    rw [e _ _ (by omega) (by omega), hm _ _ (by omega)]; exact z3 k x hk
  · refine hY.cg (Nat.le_refl _) (fun i hi => ⟨?_, ?_⟩) (fun i _ hi => ⟨?_, ?_, ?_⟩) (fun s1 _ hs k hk => ?_)
    · exact hm 7 i (by omega)
    · exact hm 8 i (by omega)
    · exact e 20 i (by omega) (by omega)
    · exact e 21 i (by omega) (by omega)
    · exact e 22 i (by omega) (by omega)
    · exact hm 6 (6 * s1 + k) (by omega)
  · rw [hm 9 0 (by omega), hm 10 0 (by omega)]
    refine hE.cg (Nat.le_refl _) (fun i hi => ⟨?_, ?_⟩) (fun i _ hi => ⟨?_, ?_⟩)
    · exact hm 7 i (by omega)
    · exact hm 8 i (by omega)
    · exact e 20 i (by omega) (by omega)
    · exact e 21 i (by omega) (by omega)
theorem sx_st0 (φ : qm_F) : sx_st φ φ := ⟨fun _ _ _ _ => rfl, rfl⟩
theorem sm_st0 (ψ : qm_F) : sm_st ψ ψ := fun _ _ _ => rfl
def ss_V (F : Nat) (ψ0 : qm_F) (u g i : Nat) : Nat := match mo_ran F (qm_u ψ0 0 43 (Int32.ofNat u)) (Int32.ofNat g) (Int32.ofNat i) with | some (w, _) => w.toNatClampNeg | none => 0
theorem ss_pow : ∀ s, s ≤ 7 → ((1 : Int32) <<< (Int32.ofNat s &&& 31)) = Int32.ofNat (2 ^ s) ∧ 1 ≤ 2 ^ s ∧ 2 ^ s ≤ 128 := by decide
theorem ss_make (hF : 200000 ≤ F) (hD : rs_D nT W Ib Hb Hr v ns M p r φ0 ψ0) (hg : gg = 2 ^ Hb.sum) (hi : nI = 2 ^ Ib.sum) (hR : gg * nI ≤ nR) (hR2 : nR ≤ 16384) : (∀ u, u ≤ 9 → ss_H F nR nN nT gg nI φ0 ψ0 (ss_V F ψ0 u) u) ∧ ss_P Hb φ0 ψ0 := by
  have hD' := hD
  obtain ⟨⟨w1, w2, w3, w4, w5, w6, w7, w8, w9, w10, w11⟩, ⟨x0, x1, x2, x3, x4, x5, x6, x13, xm, x20⟩, ⟨y0, y1, y2, y3, y4, y5, y6⟩, z1, z2, z3, hns, hM, hT, hT2, hY, hpr, hE⟩ := hD'
  obtain ⟨p1, p2, p3⟩ := ss_pow Hb.sum w8
  obtain ⟨q1, q2, q3⟩ := ss_pow Ib.sum w7
  refine ⟨fun u hu => ?_, ⟨w4, w8, x2, y2, z2⟩⟩
  have can : ∀ φ, sx_st φ0 φ → ∀ g i, g < gg → i < nI → ∃ φ', ma_run F nR nN nT gg φ (Int32.ofNat g) (Int32.ofNat i) (Int32.ofNat u) = some φ' ∧ φ' 26 9 = Int32.ofNat (ss_V F ψ0 u g i) ∧ rs_fx φ φ' ∧ ss_V F ψ0 u g i ≤ 5 := by
    intro φ hx g i h1 h2
    have hm : sm_st ψ0 (qm_u ψ0 0 43 (Int32.ofNat u)) := fun a j z => ya_u_a _ _ _ _ (by omega)
    obtain ⟨φ', ψ', w, k, e1, e2, e3, e4, e5, e6, e7, e8, e9, e10⟩ := rs_run (nR := nR) (nN := nN) (gg := gg) hF (hD.st hx hm) (ya_u_same ψ0 0 43 (Int32.ofNat u)) hu (g := g) (i := i) (by omega) (by omega)
    have ev : ss_V F ψ0 u g i = w := by
      unfold ss_V
      rw [e2]
      exact ya_nn (by omega)
    exact ⟨φ', e1, by rw [e4, ev], e9, by rw [ev]; exact e3⟩
  refine ⟨fun φ hx g i h1 h2 => ?_, fun ψ hm h43 g i h1 h2 => ?_, fun g i h1 h2 => ?_, by omega, by omega, by omega, by omega, hR, hR2, hF, by rw [x6, p1, hg], by rw [x5, q1, hi], by rw [y6, p1, hg], by rw [y5, q1, hi]⟩
  · obtain ⟨φ', e1, e2, e3, _⟩ := can φ hx g i h1 h2
    exact ⟨φ', e1, e2, e3⟩
  · obtain ⟨φ1, d1, d2, d3, d4⟩ := can φ0 (sx_st0 φ0) g i h1 h2
    obtain ⟨φ', ψ', w, k, e1, e2, e3, e4, e5, e6, e7, e8, e9, e10⟩ := rs_run (nR := nR) (nN := nN) (gg := gg) hF (hD.st (sx_st0 φ0) hm) h43 hu (g := g) (i := i) (by omega) (by omega)
    rw [d1] at e1
    have : φ1 = φ' := Option.some.inj e1
    rw [this, e4, ya_eq (by omega) (by omega)] at d2
    exact ⟨ψ', by rw [e2, d2], e10⟩
  · obtain ⟨_, _, _, _, d4⟩ := can φ0 (sx_st0 φ0) g i h1 h2
    exact d4
/-- a guess's cost -/
def ss_cst (Hb : List Nat) (w : Nat → Int32) (g : Nat) : Nat → Nat → Int32 → Int32
  | _, 0, a => a
  | k, n + 1, a => ss_cst Hb w g (k + 1) n (a + w k * rp_v Hb g k)
theorem sm_cost (hF : 200000 ≤ F) (hP : ss_P Hb φ0 ψ0) (h : sm_st ψ0 ψ) {w : Nat → Int32} (hw : ∀ k, k < Hb.length → ψ0 5 (3 + k) = w k) {g : Nat} (hg : g < 2147483648) : mo_costOf F ψ (Int32.ofNat g) = some (ss_cst Hb w g 0 Hb.length 0) := by
  have h5 := hP.1
  have e2 : ψ 2 2 = Int32.ofNat Hb.length := by rw [h 2 2 (by omega)]; exact hP.2.2.2.1
  have : ∀ (n m k : Nat) (a : Int32), n + k = Hb.length → n + 1 ≤ m → mo_costOf_L4 F m ψ (Int32.ofNat g) a (Int32.ofNat k) = some (ss_cst Hb w g k n a) := by
    intro n
    induction n with
    | zero =>
      intro m k a h1 h2
      obtain ⟨m, rfl⟩ : ∃ z, m = z + 1 := ⟨m - 1, by omega⟩
      unfold mo_costOf_L4
      rw [e2, if_pos (by rw [ya_le (by omega) (by omega)]; omega)]
      rfl
    | succ n ih =>
      intro m k a h1 h2
      obtain ⟨m, rfl⟩ : ∃ z, m = z + 1 := ⟨m - 1, by omega⟩
      unfold mo_costOf_L4
      rw [e2, if_neg (by rw [ya_le (by omega) (by omega)]; omega), show (3 : Int32) + Int32.ofNat k = Int32.ofNat (3 + k) from ya_add 3 k, ya_in (by omega) (by omega), ya_nn (by omega), sm_hole hF hP h hg (by omega), h 5 (3 + k) (by omega), hw k (by omega), ya_add1]
      exact ih m (k + 1) _ (by omega) (by omega)
  exact this Hb.length F 0 0 (by omega) (by omega)
theorem ss_makeE (hF : 200000 ≤ F) (hD : rs_D nT W Ib Hb Hr v ns M p r φ0 ψ0) (hg : gg = 2 ^ Hb.sum) (hi : nI = 2 ^ Ib.sum) (hc : ∀ g, g < gg → φ0 23 g = ss_cst Hb (φ0 17) g 0 Hb.length 0) : sb_E F nR nN nT gg nI φ0 ψ0 Hb := by
  have hD' := hD
  obtain ⟨⟨w1, w2, w3, w4, w5, w6, w7, w8, w9, w10, w11⟩, ⟨x0, x1, x2, x3, x4, x5, x6, x13, xm, x20⟩, ⟨y0, y1, y2, y3, y4, y5, y6⟩, z1, z2, z3, hns, hM, hT, hT2, hY, hpr, hE⟩ := hD'
  obtain ⟨p1, p2, p3⟩ := ss_pow Hb.sum w8
  obtain ⟨q1, q2, q3⟩ := ss_pow Ib.sum w7
  have h17 : ∀ k, k < Hb.length → φ0 17 k = ψ0 5 (3 + k) := by
    intro k hk
    have := z3 k (Hr[k]'(by omega)) (List.getElem?_eq_getElem (by omega))
    rw [this.1, this.2]
  refine ⟨fun j hj => ?_, h17, ⟨v, w6, x3⟩, fun ψ hm g hg2 => ?_, fun u φ ψ hu hx hm h43 g i h1 h2 => ?_⟩
  · rcases (by omega : j = 0 ∨ j = 1 ∨ j = 2 ∨ j = 3 ∨ j = 4 ∨ j = 5 ∨ j = 6) with rfl | rfl | rfl | rfl | rfl | rfl | rfl
    · rw [x0, y0]
    · rw [x1, y1]
    · rw [x2, y2]
    · rw [x3, y3]
    · rw [x4, y4]
    · rw [x5, y5]
    · rw [x6, y6]
  · rw [hc g hg2]
    exact sm_cost hF ⟨w4, w8, x2, y2, z2⟩ hm (fun k hk => (h17 k hk).symm) (by omega)
  · exact rs_run hF (hD.st hx hm) h43 hu (by omega) (by omega)
end S15
