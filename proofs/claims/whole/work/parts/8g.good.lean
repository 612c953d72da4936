/-! SEMANTICS: sketch, what stands when it was read -/
section S23
variable {F nR n tn cnt : Nat} {φ ψ : qm_F} {c : Nat → Nat}
/-- the component's world after a sketch, in the search's numbering -/
def sk_X (nR gg : Nat) (φ5 φF : qm_F) : Prop :=
  (∀ a j, 4 ≤ a → a ≤ 24 → φF a j = φ5 a j) ∧ φF 1 1 = 0 ∧ φF 26 1 = ((1 : Int32) <<< (φ5 14 0 &&& 31)) - 1 ∧ φF 25 1 = ((1 : Int32) <<< (φ5 14 5 &&& 31)) ∧ φF 25 3 = 0 ∧ (∀ j, j < nR → φF 3 j = 0) ∧ φF 30 5 = 0 ∧ φF 30 6 = 0 ∧ φF 30 7 = 0 ∧ φF 30 8 = -1 ∧ (∀ k, k < 5 → φF 31 k = -1)
theorem sk_shown (hF : 4000 ≤ F) (hn : n ≤ 800) (hcb : ∀ j, j < n → c j < 256) {φ2 ψ3 : qm_F} {fs : Nat} (hK : yk_TK F n cnt (fun j => Int32.ofNat (c j)) (zk_T c φ2)) (hTok : ∀ s, s < cnt → ∃ e q l, zk_tok c n e q l (φ2 6 s) ∧ φ2 7 s = Int32.ofNat q ∧ φ2 8 s = Int32.ofNat l ∧ φ2 9 s = zk_nm c q l (φ2 6 s) ∧ q ≤ n ∧ l ≤ n)
    (hfs : fs < cnt) (hl : zk_T c φ2 0 (cnt - 1) = 0) (hT : yk_TX (fun j => Int32.ofNat (c j)) n ψ3) (h13 : ψ3 0 13 = 1) (h31 : ψ3 0 31 = zk_T c φ2 1 fs) :
    ∃ ψ', mo_laysShown F ψ3 = some ψ' ∧ ls_f ψ3 ψ' ∧ (∀ j, j < n → ψ' 11 (800 + j) = qm_by (ψ3 1 j)) ∧ ψ' 14 1 = Int32.ofNat (cnt - 1 - fs) ∧ (∀ j, j < cnt - 1 - fs → ψ' 12 (800 + j) = zk_T c φ2 1 (fs + j) ∧ ψ' 13 (800 + j) = zk_T c φ2 2 (fs + j)) := by
  refine ls_all hF hK hfs hl hT h13 h31 (fun ψ hT h5 => ?_)
  obtain ⟨e, q, l, d1, d2, d3, d4, d5, d6⟩ := hTok fs hfs
  have htok : zk_tok c n q q l (φ2 6 fs) := ⟨Nat.le_refl _, d1.2.1, fun j a b => by omega, d1.2.2.2⟩
  obtain ⟨ψ', r1, r2, r4, r5, r6, r7, r8⟩ := zm_step (F := F) hF hn hcb htok hT (by rw [h5]; exact d2)
  refine ⟨ψ', r1, ⟨?_, ?_, ?_, fun z => ?_, fun z => ?_⟩, r2⟩
  · show ψ' 0 4 = φ2 7 fs
    rw [r4, d2]
  · show ψ' 0 5 = φ2 7 fs + φ2 8 fs
    rw [r5, d2, d3, ya_add]
  · show ψ' 0 6 = yk_cls (φ2 6 fs)
    rw [r6]
  · have z' : φ2 6 fs = 48 := z
    show ψ' 0 7 = φ2 9 fs
    rw [r7 z', d4]
    unfold zk_nm
    rw [if_pos z']
  · have z' : yk_cls (φ2 6 fs) = 1 := z
    show ψ' 0 8 = Int32.ofNat (zk_w 32 c (φ2 7 fs).toNatClampNeg (φ2 8 fs).toNatClampNeg)
    rw [r8 z', d2, d3, ya_nn (by omega), ya_nn (by omega)]
/-- the reference's last steps before it ranks -/
theorem sk_188 (hF : 2000 ≤ F) (ψ : qm_F) : ∃ ψ', mo_sketch_L188 F F ψ 0 = (qb1 (mo_laysRanks F ψ') fun φ1 => qb1 (mo_had F φ1 4) fun y1 => some (y1, φ1)) ∧ (∀ k, k < 5 → ψ' 15 k = -1) ∧ ψ' 0 45 = 0 ∧ ψ' 0 41 = 0 ∧ ψ' 0 42 = -1 ∧ ψ' 0 43 = 0 ∧ ψ' 0 44 = 0 ∧ ψ' 0 40 = 0 ∧ ∀ a j, a ≠ 15 → ¬ (a = 0 ∧ 40 ≤ j ∧ j ≤ 45) → ψ' a j = ψ a j := by
  have : ∀ (k m i : Nat) (ψ1 : qm_F), k + i = 5 → k + 1 ≤ m → (∀ j, j < i → ψ1 15 j = -1) → (∀ a j, a ≠ 15 → ψ1 a j = ψ a j) → ∃ ψ', mo_sketch_L188 F m ψ1 (Int32.ofNat i) = (qb1 (mo_laysRanks F ψ') fun φ1 => qb1 (mo_had F φ1 4) fun y1 => some (y1, φ1)) ∧ (∀ k, k < 5 → ψ' 15 k = -1) ∧ ψ' 0 45 = 0 ∧ ψ' 0 41 = 0 ∧ ψ' 0 42 = -1 ∧ ψ' 0 43 = 0 ∧ ψ' 0 44 = 0 ∧ ψ' 0 40 = 0 ∧ ∀ a j, a ≠ 15 → ¬ (a = 0 ∧ 40 ≤ j ∧ j ≤ 45) → ψ' a j = ψ a j := by
    intro k
    induction k with
    | zero =>
      intro m i ψ1 h1 h2 h3 h4
      obtain ⟨m, rfl⟩ : ∃ z, m = z + 1 := ⟨m - 1, by omega⟩
      obtain rfl : i = 5 := by omega
      refine ⟨qm_u (qm_u (qm_u (qm_u (qm_u (qm_u ψ1 0 45 0) 0 41 0) 0 42 (-1)) 0 43 0) 0 44 0) 0 40 0, ?_, fun k hk => h3 k hk, by simp [qm_u], by simp [qm_u], by simp [qm_u], by simp [qm_u], by simp [qm_u], by simp [qm_u], fun a j x y => ?_⟩
      · conv => lhs; unfold mo_sketch_L188
        rw [if_pos (by decide)]
      · rw [← h4 a j x]
        (unfold qm_u; repeat' split) <;> first | rfl | omega
    | succ k ih =>
      intro m i ψ1 h1 h2 h3 h4
      obtain ⟨m, rfl⟩ : ∃ z, m = z + 1 := ⟨m - 1, by omega⟩
      unfold mo_sketch_L188
      rw [if_neg (by rw [show (5 : Int32) = Int32.ofNat 5 from rfl, ya_le (by omega) (by omega)]; omega), ya_in (by omega) (by omega), ya_nn (by omega), ya_add1]
      refine ih m (i + 1) _ (by omega) (by omega) (fun j hj => ?_) (fun a j x => by rw [ya_u_a _ _ _ _ x]; exact h4 a j x)
      by_cases w : j = i
      · rw [w, ya_u_same]
      · rw [ya_u_i _ _ _ _ w]; exact h3 j (by omega)
  exact this 5 F 0 ψ (by omega) (by omega) (fun j hj => by omega) (fun _ _ _ => rfl)
/-- the package: all that a sketch leaves behind -/
def sk_Q (F nR nN nT gg nI : Nat) (φ0 ψ0 : qm_F) (Hb : List Nat) (fs N : Nat) (c : Nat → Nat) : Prop := sb_E F nR nN nT gg nI φ0 ψ0 Hb ∧ sh_S F nN fs N c Hb φ0 ψ0 ∧ gg = 2 ^ Hb.sum
theorem sk_good (hF : 200000 ≤ F) (hn : n ≤ 800) {φ2 φ3 ψ3 : qm_F} {fs ns W v : Nat} {Ib Hb Hr : List Nat} (hcb : ∀ j, j < n → c j < 256 ∧ ψ 1 j &&& 255 = Int32.ofNat (c j) ∧ φ2 5 j = Int32.ofNat (c j)) (hK : yk_TK F n cnt (fun j => Int32.ofNat (c j)) (zk_T c φ2))
    (hTok : ∀ s, s < cnt → ∃ e q l, zk_tok c n e q l (φ2 6 s) ∧ φ2 7 s = Int32.ofNat q ∧ φ2 8 s = Int32.ofNat l ∧ φ2 9 s = zk_nm c q l (φ2 6 s) ∧ q ≤ n ∧ l ≤ n) (hY : yw_P cnt (zk_T c φ2) fs ns W Ib Hb Hr v φ3 ψ3)
    (h5 : ∀ a j, a = 5 ∨ a = 7 ∨ a = 8 → φ3 a j = φ2 a j) (hb : sk_b n ψ ψ3) (h21 : ∀ j, j < 40 → ψ 21 j = 0) :
    ∃ φ5 ψ8 gg nI rk, gg = 2 ^ Hb.sum ∧ nI = 2 ^ Ib.sum ∧ gg ≤ 128 ∧ nI ≤ 128 ∧ 1 ≤ gg ∧ 1 ≤ nI ∧ ((1 : Int32) <<< (φ3 14 6 &&& 31)) = Int32.ofNat gg ∧ ((1 : Int32) <<< (φ5 14 6 &&& 31)) = Int32.ofNat gg ∧ ((1 : Int32) <<< (φ5 14 5 &&& 31)) = Int32.ofNat nI ∧
      pr_rankGuesses_L21 F nR n cnt gg F 0 (sk_f4 φ3) (Int32.ofNat gg) 0 0 = some φ5 ∧ (∀ a j, a ≠ 23 → a ≠ 24 → φ5 a j = φ3 a j) ∧
      (qb1 (mo_laysShown F ψ3) fun φ3 => mo_sketch_L142 F φ3 1) = some (φ5 14 4, ψ8) ∧
      ∀ nS φF, gg * nI ≤ nS → nS ≤ 16384 → sk_X nS gg φ5 φF → sb_D F nS n cnt gg nI φF ψ8 (fun u => ss_V F ψ8 u) Hb rk 0 0 0 0 0 (fun _ => -1) (fun _ => 0) (-1) φF ψ8 ∧ sk_Q F nS n cnt gg nI φF ψ8 Hb fs (cnt - 1 - fs) c := by
  have hcn := hK.2.1
  obtain ⟨hD, w1, w2, w3, ⟨M, p, r, m1, m2, m3, m4, m5, m6⟩, w5, w6, w7, w8, w9, w10, w11, w12⟩ := hY
  obtain ⟨⟨g1, g2, g3, g4, g5, g6, g7, g8, g9, g10, g11⟩, ⟨x0, x1, x2, x3, x5, x6⟩, ⟨y0, y1, y2, y3, y5, y6⟩, z1, z2, z3⟩ := hD
  obtain ⟨b1, b2, b3, b4⟩ := hb
  obtain ⟨p1, p2, p3⟩ := ss_pow Hb.sum g8
  obtain ⟨q1, q2, q3⟩ := ss_pow Ib.sum g7
  have tx : yk_TX (fun j => Int32.ofNat (c j)) n ψ3 := ⟨b2, fun j hj => by rw [b4 1 j (by omega) (by omega) (by omega) (by omega) (by omega) (by omega)]; exact (hcb j hj).2.1⟩
  obtain ⟨ψ4, s1, s2, s3, s4, s5⟩ := sk_shown (F := F) (by omega) hn (fun j hj => (hcb j hj).1) hK hTok w7 w8 tx b3 w6
  obtain ⟨ψ5, c1, c2, c3, c4, c5, c6, c7, c8, c9⟩ := cp_all (F := F) (by omega) (qm_u (qm_u ψ4 0 13 0) 0 13 1)
  obtain ⟨ψ7, d1, d2, d3, d4, d5, d6, d7, d8, d9⟩ := sk_188 (F := F) (by omega) (qm_u (qm_u ψ5 0 13 0) 0 12 1)
  -- cells of the reference, from the end to the reading
  have u45 : ∀ a j, a ≠ 0 → (qm_u (qm_u ψ4 0 13 0) 0 13 1) a j = ψ4 a j := fun a j x => by rw [ya_u_a _ _ _ _ x, ya_u_a _ _ _ _ x]
  have u57 : ∀ a j, a ≠ 0 → a ≠ 15 → ψ7 a j = ψ5 a j := fun a j x y => by rw [d9 a j y (by omega), ya_u_a _ _ _ _ x, ya_u_a _ _ _ _ x]
  have l34 : ∀ a j, 2 ≤ a → a ≤ 10 → ψ4 a j = ψ3 a j := fun a j x y => s2 a j (by omega) (by omega) (by omega)
  have e2 : ∀ j, j < 7 → ψ7 2 j = ψ3 2 (7 + j) := fun j hj => by rw [u57 _ _ (by omega) (by omega), c2 j hj, u45 _ _ (by omega), l34 _ _ (by omega) (by omega)]
  have e345 : ∀ a j, 3 ≤ a → a ≤ 5 → j < 15 → ψ7 a j = ψ3 a (15 + j) := fun a j x y hj => by rw [u57 _ _ (by omega) (by omega), c3 a j x y hj, u45 _ _ (by omega), l34 _ _ (by omega) (by omega)]
  have e6 : ∀ j, j < 144 → ψ7 6 j = ψ3 6 (144 + j) := fun j hj => by rw [u57 _ _ (by omega) (by omega), c4 j hj, u45 _ _ (by omega), l34 _ _ (by omega) (by omega)]
  have e78 : ∀ a j, a = 7 ∨ a = 8 → j < 800 → ψ7 a j = ψ3 a (800 + j) := fun a j x hj => by
    rw [u57 _ _ (by omega) (by omega), c5 a j (by omega) hj, u45 _ _ (by omega), l34 _ _ (by omega) (by omega)]
    unfold cp_v
    rw [if_neg (by omega)]
  have e9 : ψ7 9 0 = ψ3 9 1 := by rw [u57 _ _ (by omega) (by omega), c6, u45 _ _ (by omega), l34 _ _ (by omega) (by omega)]
  have e10 : ψ7 10 0 = ψ3 10 1 := by rw [u57 _ _ (by omega) (by omega), c7, u45 _ _ (by omega), l34 _ _ (by omega) (by omega)]
  have e14 : ψ7 14 0 = Int32.ofNat (cnt - 1 - fs) := by rw [u57 _ _ (by omega) (by omega), c8, u45 _ _ (by omega)]; exact s4
  have e11 : ∀ j, j < n → c j < 128 → ψ7 11 j = Int32.ofNat (c j) := fun j hj hc => by
    rw [u57 _ _ (by omega) (by omega), c5 11 j (by omega) (by omega), u45 _ _ (by omega), s3 j hj, b4 1 j (by omega) (by omega) (by omega) (by omega) (by omega) (by omega), ha_by (hcb j hj).2.1 hc]
    exact ha_byc _ hc
  have e12 : ∀ j, j < cnt - 1 - fs → ψ7 12 j = zk_T c φ2 1 (fs + j) ∧ ψ7 13 j = zk_T c φ2 2 (fs + j) := fun j hj => by
    rw [u57 _ _ (by omega) (by omega), u57 _ _ (by omega) (by omega), c5 12 j (by omega) (by omega), c5 13 j (by omega) (by omega), u45 _ _ (by omega), u45 _ _ (by omega)]
    exact s5 j hj
  -- the ranks
  have hP7 : ss_P Hb (sk_f4 φ3) ψ7 := ⟨g4, g8, x2, by rw [e2 2 (by omega)]; exact y2, fun k x hx => by
    have := (List.getElem?_eq_some_iff.mp hx).1
    rw [e345 4 (3 + k) (by omega) (by omega) (by omega), show 15 + (3 + k) = 18 + k by omega]; exact z2 k x hx⟩
  have h17 : ∀ k, k < Hb.length → ψ7 5 (3 + k) = (sk_f4 φ3) 17 k := fun k hk => by
    have := z3 k (Hr[k]'(by omega)) (List.getElem?_eq_getElem (by omega))
    rw [e345 5 (3 + k) (by omega) (by omega) (by omega), show 15 + (3 + k) = 18 + k by omega, this.2]
    exact this.1.symm
  have h26 : ((1 : Int32) <<< (ψ7 2 6 &&& 31)) = Int32.ofNat (2 ^ Hb.sum) := by rw [e2 6 (by omega), show 7 + 6 = 13 from rfl, y6, p1]
  obtain ⟨φ5, ψ8, k1, k2, k3⟩ := rk_all (F := F) (nR := nR) (nN := n) (nT := cnt) (gg := 2 ^ Hb.sum) hF hP7 h17 p3 h26 (2 ^ Hb.sum) 0 F F (sk_f4 φ3) ψ7 (by omega) (by omega) (by omega) ⟨fun _ _ _ _ => rfl, fun _ _ _ => rfl, fun j hj => by omega, fun j _ => rfl, fun j hj => by omega⟩
  obtain ⟨i1, i2, i3, i4, i5⟩ := k3
  have f53 : ∀ a j, a ≠ 23 → a ≠ 24 → φ5 a j = φ3 a j := fun a j x y => by
    rw [i1 a j x y]
    unfold sk_f4
    simp only [qm_z, x, y, if_false]
  refine ⟨φ5, ψ8, 2 ^ Hb.sum, 2 ^ Ib.sum, fun j => (φ5 24 j).toNatClampNeg, rfl, rfl, p3, q3, p2, q2, by rw [x6, p1], by rw [f53 14 6 (by omega) (by omega), x6, p1], by rw [f53 14 5 (by omega) (by omega), x5, q1], k1, f53, ?_, ?_⟩
  · rw [s1]
    simp only [yb1]
    unfold mo_sketch_L142
    rw [if_pos (by decide), c1]
    simp only [yb1]
    rw [d1]
    have k2' : mo_laysRanks F ψ7 = some ψ8 := k2
    rw [k2']
    simp only [yb1]
    unfold mo_had
    have e013 : ψ8 0 13 = 0 := by
      rw [i2 0 13 (by omega), d9 0 13 (by omega) (by omega)]
      simp [qm_u]
    rw [e013, show (7 : Int32) * 0 + 4 = 4 by decide, show qm_in 4 14 = true by decide, show (4 : Int32).toNatClampNeg = 4 by decide, i2 2 4 (by omega), e2 4 (by omega), show 7 + 4 = 11 from rfl, w3, f53 14 4 (by omega) (by omega), w2]
    rfl
  · intro nS φF hS1 hS2 hX
    obtain ⟨X1, X2, X3, X4, X5, X6, X7, X8, X9, X10, X11⟩ := hX
    have XF : ∀ a j, 4 ≤ a → a ≤ 22 → φF a j = φ3 a j := fun a j x y => by rw [X1 a j x (by omega), f53 a j (by omega) (by omega)]
    have hpr : p ≤ r := by obtain ⟨_, len, _, _, _, z, _⟩ := m3; omega
    have D : rs_D cnt W Ib Hb Hr v ns M p r φF ψ8 := by
      refine ⟨⟨g1, g2, g3, g4, g5, g6, g7, g8, g9, g10, g11⟩, ⟨?_, ?_, ?_, ?_, ?_, ?_, ?_, ?_, ?_, ?_⟩, ⟨?_, ?_, ?_, ?_, ?_, ?_, ?_⟩, fun k x hk => ?_, fun k x hk => ?_, fun k x hk => ?_, w1, m1, m6, by omega, ?_, hpr, ?_⟩
      · rw [XF 14 0 (by omega) (by omega)]; exact x0
      · rw [XF 14 1 (by omega) (by omega)]; exact x1
      · rw [XF 14 2 (by omega) (by omega)]; exact x2
      · rw [XF 14 3 (by omega) (by omega)]; exact x3
      · rw [XF 14 4 (by omega) (by omega)]; exact w2
      · rw [XF 14 5 (by omega) (by omega)]; exact x5
      · rw [XF 14 6 (by omega) (by omega)]; exact x6
      · rw [XF 14 13 (by omega) (by omega)]; exact m5
      · rw [X3, f53 14 0 (by omega) (by omega), x0]
      · rw [XF 20 r (by omega) (by omega)]; exact m4
      · rw [i2 2 0 (by omega), e2 0 (by omega)]; exact y0
      · rw [i2 2 1 (by omega), e2 1 (by omega)]; exact y1
      · rw [i2 2 2 (by omega), e2 2 (by omega)]; exact y2
      · rw [i2 2 3 (by omega), e2 3 (by omega)]; exact y3
      · rw [i2 2 4 (by omega), e2 4 (by omega)]; exact w3
      · rw [i2 2 5 (by omega), e2 5 (by omega)]; exact y5
      · rw [i2 2 6 (by omega), e2 6 (by omega)]; exact y6
      · have := (List.getElem?_eq_some_iff.mp hk).1
        rw [XF 15 k (by omega) (by omega), i2 4 k (by omega), e345 4 k (by omega) (by omega) (by omega)]; exact z1 k x hk
      · have := (List.getElem?_eq_some_iff.mp hk).1
        rw [XF 16 k (by omega) (by omega), i2 4 _ (by omega), e345 4 _ (by omega) (by omega) (by omega), show 15 + (3 + k) = 18 + k by omega]; exact z2 k x hk
      · have := (List.getElem?_eq_some_iff.mp hk).1
        rw [XF 17 k (by omega) (by omega), i2 5 _ (by omega), e345 5 _ (by omega) (by omega) (by omega), show 15 + (3 + k) = 18 + k by omega]; exact z3 k x hk
      · refine m2.cg (Nat.le_refl _) (fun i hi => ⟨?_, ?_⟩) (fun i _ hi => ⟨?_, ?_, ?_⟩) (fun s1 _ hs k hk => ?_)
        · show ψ8 7 i = ψ3 7 (800 + i)
          rw [i2 7 i (by omega)]; exact e78 7 i (by omega) (by omega)
        · show ψ8 8 i = ψ3 8 (800 + i)
          rw [i2 8 i (by omega)]; exact e78 8 i (by omega) (by omega)
        · exact XF 20 i (by omega) (by omega)
        · exact XF 21 i (by omega) (by omega)
        · exact XF 22 i (by omega) (by omega)
        · show ψ8 6 (6 * s1 + k) = ψ3 6 (144 + 6 * s1 + k)
          rw [i2 6 _ (by omega), e6 _ (by omega), show 144 + (6 * s1 + k) = 144 + 6 * s1 + k by omega]
      · rw [i2 9 0 (by omega), i2 10 0 (by omega), e9, e10]
        refine m3.cg (Nat.le_refl _) (fun i hi => ⟨?_, ?_⟩) (fun i _ hi => ⟨?_, ?_⟩)
        · show ψ8 7 i = ψ3 7 (800 + i)
          rw [i2 7 i (by omega)]; exact e78 7 i (by omega) (by omega)
        · show ψ8 8 i = ψ3 8 (800 + i)
          rw [i2 8 i (by omega)]; exact e78 8 i (by omega) (by omega)
        · exact XF 20 i (by omega) (by omega)
        · exact XF 21 i (by omega) (by omega)
    obtain ⟨mk1, mk2⟩ := ss_make (nN := n) hF D rfl rfl hS1 hS2
    have hlow : ∀ a j, a = 15 ∨ a = 19 ∨ a = 20 ∨ a = 21 → a ≠ 15 → ψ8 a j = ψ a j := fun a j x y => by
      rw [i2 a j (by omega), u57 a j (by omega) y, c9 a j (by omega), u45 a j (by omega), s2 a j (by omega) (by omega) (by omega), b4 a j (by omega) (by omega) (by omega) (by omega) (by omega) (by omega)]
    refine ⟨⟨fun u hu => mk1 u hu, mk2, ?_, by omega, ⟨sx_st0 _, ?_, ?_, fun g i a b => Or.inl ?_⟩, ⟨sm_st0 _, ?_, Or.inl ?_⟩, ⟨X11, ?_, fun j hj => by omega, by omega⟩, ⟨?_, ?_, fun j hj => by omega, by omega, fun j hj => ?_⟩, ⟨?_, ?_, by omega⟩, ⟨?_, ?_, by omega⟩, ⟨X10, ?_⟩, Or.inl rfl, ?_, ⟨?_, ?_, fun j hj => by omega⟩, by omega⟩, ?_, ?_, rfl⟩
    · intro k hk
      obtain ⟨r', r1, r2, r3⟩ := i5 k hk
      show φF 24 k = Int32.ofNat (φ5 24 k).toNatClampNeg ∧ ψ8 16 k = Int32.ofNat (φ5 24 k).toNatClampNeg ∧ (φ5 24 k).toNatClampNeg < _
      rw [X1 24 k (by omega) (by omega), r2, ya_nn (by omega)]
      exact ⟨rfl, r3, r1⟩
    · rw [X4, f53 14 5 (by omega) (by omega), x5, q1]
    · exact X5
    · refine X6 _ ?_
      exact ss_cell a b hS1
    · rw [i2 0 43 (by omega)]; exact d6
    · rw [i2 0 40 (by omega)]; exact d8
    · exact X7
    · intro k hk
      rw [i2 15 k (by omega)]; exact d2 k hk
    · rw [i2 0 45 (by omega)]; exact d3
    · rw [hlow 21 j (by omega) (by omega), if_pos rfl]; exact h21 j hj
    · exact X8
    · rw [i2 0 44 (by omega)]; exact d7
    · exact X9
    · rw [i2 0 41 (by omega)]; exact d4
    · rw [i2 0 42 (by omega)]; exact d5
    · rw [i2 0 12 (by omega), d9 0 12 (by omega) (by omega)]; simp [qm_u]
    · exact X2
    · rw [i2 0 2 (by omega), d9 0 2 (by omega) (by omega)]
      have : (qm_u (qm_u ψ5 0 13 0) 0 12 1) 0 2 = ψ5 0 2 := by simp [qm_u]
      rw [this, c9 0 2 (by omega)]
      have : (qm_u (qm_u ψ4 0 13 0) 0 13 1) 0 2 = ψ4 0 2 := by simp [qm_u]
      rw [this, s2 0 2 (by omega) (by omega) (by omega)]
      exact b1
    · refine ss_makeE hF D rfl rfl (fun g hg => ?_)
      rw [X1 23 g (by omega) (by omega), i3 g hg]
      have : (sk_f4 φ3) 17 = φF 17 := by
        funext k
        rw [XF 17 k (by omega) (by omega)]
        rfl
      rw [this]
    · refine ⟨by omega, hn, ?_, ?_, ?_, fun j hj => ?_, fun t ht => ?_⟩
      · rw [XF 4 5 (by omega) (by omega), w10]; congr 1; omega
      · rw [XF 14 17 (by omega) (by omega)]; exact w5
      · rw [i2 14 0 (by omega)]; exact e14
      · rw [XF 5 j (by omega) (by omega), h5 5 j (by omega)]; exact (hcb j hj).2.2
      · have hk4 := hK.2.2.2.1 (fs + t) (by omega)
        have hk4' : (φ2 6 (fs + t) = 0 ∨ φ2 6 (fs + t) = 1) ↔ fs + t + 1 = cnt := hk4
        refine sh_mk (φ2 := φ2) (ψN := ψ3) (cnt := cnt) (by omega) hn (fun j hj => (hcb j hj).1) hTok g4 (by rw [i2 2 2 (by omega), e2 2 (by omega)]; exact y2) (fun k hk => by rw [i2 3 _ (by omega), e345 3 _ (by omega) (by omega) (by omega), show 15 + (3 + k) = 18 + k by omega]) (fun j hj hc => by rw [i2 11 j (by omega)]; exact e11 j hj hc) w11 w12 (by omega) (fun z => absurd (hk4'.mp (Or.inl z)) (by omega)) (fun z => absurd (hk4'.mp (Or.inr z)) (by omega)) ?_ ?_ ?_ ?_ ?_
        · rw [XF 7 _ (by omega) (by omega), h5 7 _ (by omega)]
        · rw [XF 8 _ (by omega) (by omega), h5 8 _ (by omega)]
        · rw [i2 12 t (by omega)]; exact (e12 t ht).1
        · rw [i2 13 t (by omega)]; exact (e12 t ht).2
        · exact (w9 (fs + t) (by omega) (by omega)).fr (XF 6 _ (by omega) (by omega)) (XF 9 _ (by omega) (by omega)) (fun k _ => rfl)
end S23
