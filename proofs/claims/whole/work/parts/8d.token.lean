/-! SEMANTICS: each shown token stands alike on both sides -/
section S20
variable {F n cnt : Nat} {c : Nat → Nat} {Hb : List Nat} {φ2 φ0 ψ0 ψN : qm_F}
/-- kinds of words -/
theorem sh_word {e q l e' q' l' : Nat} {k k' : Int32} (h : zk_tok c n e q l k) (h' : zk_tok c n e' q' l' k') (a : l ≤ 6) (a' : l' ≤ 6) (w : ∀ j, j < l → zk_lt (c (q + j))) (w' : ∀ j, j < l' → zk_lt (c (q' + j))) (h1 : 1 ≤ l) (h1' : 1 ≤ l') (e1 : zk_w 32 c q l = zk_w 32 c q' l') : k = k' := by
  obtain ⟨i1, i2⟩ := zk_inj (B := 32) (by omega) l l' w w' e1
  subst i1
  have nl : ∀ x, zk_lt x → ¬ zk_dg x := fun x y z => by unfold zk_lt at y; unfold zk_dg at z; omega
  have g : ∀ {e q : Nat} {k : Int32}, zk_tok c n e q l k → (∀ j, j < l → zk_lt (c (q + j))) → zk_wk c q l k := by
    intro e q k h w
    have w0 := w 0 (by omega)
    rw [Nat.add_zero] at w0
    obtain ⟨t1, t2, t3, t4⟩ := h
    rcases t4 with ⟨_, _, z⟩ | ⟨_, b1, b2, b3, b4, b5, b6⟩ | ⟨_, b1, _⟩ | ⟨_, _, b1, _⟩
    · omega
    · rcases b6 with ⟨_, x⟩ | ⟨x, _⟩
      · exact x
      · omega
    · exact absurd b1 (nl _ w0)
    · exact absurd w0 b1
  have g1 := g h w
  have g2 := g h' w'
  have is : ∀ j, zk_is c q l j ↔ zk_is c q' l j := by
    intro j
    unfold zk_is
    constructor
    · intro z i hi
      rw [← z i hi]
      by_cases y : i < l
      · rw [if_pos y, if_pos y, i2 i y]
      · rw [if_neg y, if_neg y]
    · intro z i hi
      rw [← z i hi]
      by_cases y : i < l
      · rw [if_pos y, if_pos y, i2 i y]
      · rw [if_neg y, if_neg y]
  rcases g1 with ⟨j, x1, x2, x3, x4⟩ | ⟨x1, x2⟩
  · rcases g2 with ⟨i, y1, y2, y3, y4⟩ | ⟨y1, y2⟩
    · have : i = j := by
        rcases Nat.lt_trichotomy i j with z | z | z
        · exact absurd ((is i).mpr y2) (x3 i z)
        · exact z
        · exact absurd ((is j).mp x2) (y3 j z)
      rw [x4, y4, this]
    · exact absurd ((is j).mp x2) (y1 j x1)
  · rcases g2 with ⟨i, y1, y2, y3, y4⟩ | ⟨y1, y2⟩
    · exact absurd ((is i).mpr y2) (x1 i y1)
    · rw [x2, y2]
theorem sh_mk (hF : 2000 ≤ F) (hn : n ≤ 800) (hcb : ∀ j, j < n → c j < 256) (hTok : ∀ s, s < cnt → ∃ e q l, zk_tok c n e q l (φ2 6 s) ∧ φ2 7 s = Int32.ofNat q ∧ φ2 8 s = Int32.ofNat l ∧ φ2 9 s = zk_nm c q l (φ2 6 s) ∧ q ≤ n ∧ l ≤ n)
    (hH : Hb.length ≤ 5) (h22 : ψ0 2 2 = Int32.ofNat Hb.length) (h3 : ∀ k, k < 5 → ψ0 3 (3 + k) = ψN 3 (18 + k)) (h11 : ∀ j, j < n → c j < 128 → ψ0 11 j = Int32.ofNat (c j))
    (hN1 : ∀ k, k < 5 → ψN 3 (18 + k) = 0 ∨ (k < Hb.length ∧ ∃ p, p < cnt ∧ zk_T c φ2 0 p = 97 ∧ ψN 3 (18 + k) = zk_T c φ2 4 p)) (hN2 : ∀ k k', k < 5 → k' < 5 → ψN 3 (18 + k) = ψN 3 (18 + k') → ψN 3 (18 + k) ≠ 0 → k = k')
    {s t : Nat} (hs : s < cnt) (hk0 : φ2 6 s ≠ 0) (hk1 : φ2 6 s ≠ 1) (h7 : φ0 7 s = φ2 7 s) (h8 : φ0 8 s = φ2 8 s) (h12 : ψ0 12 t = zk_T c φ2 1 s) (h13 : ψ0 13 t = zk_T c φ2 2 s) (hmk : ye_mk (zk_T c φ2) ψN φ0 s) : sh_t F n c Hb φ0 ψ0 s t := by
  obtain ⟨e, q, l, d1, d2, d3, d4, d5, d6⟩ := hTok s hs
  have hT4 : zk_T c φ2 4 s = Int32.ofNat (zk_w 32 c q l) := by
    show Int32.ofNat (zk_w 32 c (φ2 7 s).toNatClampNeg (φ2 8 s).toNatClampNeg) = _
    rw [d2, d3, ya_nn (by omega), ya_nn (by omega)]
  have h12' : ψ0 12 t = Int32.ofNat q := by rw [h12]; exact d2
  have h13' : ψ0 13 t = Int32.ofNat (q + l) := by rw [h13]; show φ2 7 s + φ2 8 s = _; rw [d2, d3, ya_add]
  have hm97 : φ2 6 s = 97 → (∃ k, k < 5 ∧ ψN 3 (18 + k) = Int32.ofNat (zk_w 32 c q l) ∧ φ0 6 s = 2 ∧ φ0 9 s = Int32.ofNat k) ∨ ((∀ k, k < 5 → ψN 3 (18 + k) ≠ Int32.ofNat (zk_w 32 c q l)) ∧ φ0 6 s = 97) := by
    intro z
    have := hmk.1 z
    rw [hT4] at this
    exact this
  have hmn : φ2 6 s ≠ 97 → φ0 6 s = φ2 6 s ∧ φ0 9 s = φ2 9 s := fun z => hmk.2 z
  have dtok := d1
  obtain ⟨t1, t2, t3, t4⟩ := d1
  have nl : ∀ x, zk_lt x → ¬ zk_dg x := fun x y z => by unfold zk_lt at y; unfold zk_dg at z; omega
  rcases t4 with ⟨_, z, _⟩ | ⟨b0, b1, b2, b3, b4, b5, b6⟩ | ⟨b0, b1, b2, b3, b4, b5, b6⟩ | ⟨b0, b1, b2, b3, b4, b5⟩
  · exact absurd z hk0
  · -- a word
    rcases b6 with ⟨l6, hwk⟩ | ⟨_, z⟩
    · have tx : ∀ j, q ≤ j → j < q + l → c j < 128 ∧ ψ0 11 j = Int32.ofNat (c j) := by
        intro j x y
        have := b4 (j - q) (by omega)
        rw [show q + (j - q) = j by omega] at this
        unfold zk_lt at this
        exact ⟨by omega, h11 j (by omega) (by omega)⟩
      have hw32 := zk_w32 l6 b4
      have hwne : Int32.ofNat (zk_w 32 c q l) ≠ 0 := by
        rw [show (0 : Int32) = Int32.ofNat 0 from rfl, Ne, ya_eq (by omega) (by omega)]
        intro z
        have := (zk_inj (B := 32) (c := c) (c' := c) (q := q) (q' := q) (by omega) l 0 b4 (fun j hj => by omega) (by rw [z]; rfl)).1
        omega
      have hat : ∀ ψ, sm_st ψ0 ψ → _ := fun ψ hψ => ha_let (F := F) (ψ := ψ) (c := c) (Hb := Hb) hF hH (by rw [hψ 2 2 (by omega)]; exact h22) (q := q) (l := l) (by omega) b2 b4 (fun j x y => by rw [hψ 11 j (by omega)]; exact (tx j x y).2)
      have hnm : ∀ ψ, sm_st ψ0 ψ → ∀ k, k < 5 → ψ 3 (3 + k) = ψN 3 (18 + k) := fun ψ hψ k hk => by rw [hψ 3 (3 + k) (by omega)]; exact h3 k hk
      by_cases q97 : φ2 6 s = 97
      · rcases hm97 q97 with ⟨k, k1, k2, k3, k4⟩ | ⟨k1, k2⟩
        · have hkH : k < Hb.length := by
            rcases hN1 k k1 with z | ⟨z, _⟩
            · rw [z] at k2; exact absurd k2.symm hwne
            · exact z
          refine ⟨q, l, Int32.ofNat k, by rw [h7, d2], by rw [h8, d3], h12', h13', b3, b2, l6, tx, fun ψ hψ => ?_, Or.inr (Or.inl ⟨k, hkH, rfl, k3, k4⟩)⟩
          refine (hat ψ hψ).1 k hkH (by rw [hnm ψ hψ k k1]; exact k2) (fun k' hk' => ?_)
          rw [hnm ψ hψ k' (by omega)]
          intro z
          have := hN2 k' k (by omega) k1 (by rw [z, k2]) (by rw [z]; exact hwne)
          omega
        · refine ⟨q, l, -1, by rw [h7, d2], by rw [h8, d3], h12', h13', b3, b2, l6, tx, fun ψ hψ => ?_, Or.inr (Or.inr ⟨rfl, by rw [k2]; decide, by rw [k2]; decide, nl _ b1⟩)⟩
          exact (hat ψ hψ).2 (fun k hk => by rw [hnm ψ hψ k (by omega)]; exact k1 k (by omega))
      · have hkw : ∃ j, j < 13 ∧ φ2 6 s = Int32.ofNat (128 + j) := by
          rcases hwk with ⟨j, x1, _, _, x4⟩ | ⟨_, x2⟩
          · exact ⟨j, x1, x4⟩
          · exact absurd x2 q97
        obtain ⟨j, j1, j2⟩ := hkw
        have n48 : φ2 6 s ≠ 48 := by rw [j2, show (48 : Int32) = Int32.ofNat 48 from rfl, Ne, ya_eq (by omega) (by omega)]; omega
        have n2 : φ2 6 s ≠ 2 := by rw [j2, show (2 : Int32) = Int32.ofNat 2 from rfl, Ne, ya_eq (by omega) (by omega)]; omega
        refine ⟨q, l, -1, by rw [h7, d2], by rw [h8, d3], h12', h13', b3, b2, l6, tx, fun ψ hψ => ?_, Or.inr (Or.inr ⟨rfl, by rw [(hmn q97).1]; exact n48, by rw [(hmn q97).1]; exact n2, nl _ b1⟩)⟩
        refine (hat ψ hψ).2 (fun k hk => ?_)
        rw [hnm ψ hψ k (by omega)]
        intro z
        rcases hN1 k (by omega) with y | ⟨_, p, p1, p2, p3⟩
        · rw [y] at z; exact hwne z.symm
        · obtain ⟨e', q', l', d1', d2', d3', d4', d5', d6'⟩ := hTok p p1
          have p2' : φ2 6 p = 97 := p2
          rw [p2'] at d1'
          have p4 : zk_T c φ2 4 p = Int32.ofNat (zk_w 32 c q' l') := by
            show Int32.ofNat (zk_w 32 c (φ2 7 p).toNatClampNeg (φ2 8 p).toNatClampNeg) = _
            rw [d2', d3', ya_nn (by omega), ya_nn (by omega)]
          have dtok' := d1'
          obtain ⟨t1', t2', t3', t4'⟩ := d1'
          rcases t4' with ⟨_, y, _⟩ | ⟨b0', b1', b2', b3', b4', b5', b6'⟩ | ⟨_, _, _, _, _, _, b6'⟩ | ⟨b0', _, _, _, _, b5'⟩
          · exact absurd y (by decide)
          · rcases b6' with ⟨l6', _⟩ | ⟨_, y⟩
            · have hw32' := zk_w32 l6' b4'
              rw [p3, p4, ya_eq (by omega) (by omega)] at z
              exact q97 (sh_word dtok dtok' l6 l6' b4 b4' b2 b2' z.symm)
            · exact absurd y (by decide)
          · rcases b6' with ⟨_, y⟩ | ⟨_, y⟩ <;> exact absurd y (by decide)
          · rcases b5' with ⟨y1, y⟩ | ⟨_, y⟩
            · rw [show (97 : Int32) = Int32.ofNat 97 from rfl, ya_eq (by omega) (by have := hcb q' b0'; omega)] at y
              unfold zk_sg at y1
              omega
            · exact absurd y (by decide)
    · exact absurd z hk1
  · -- a number
    rcases b6 with ⟨l5, k48⟩ | ⟨_, z⟩
    · have tx : ∀ j, q ≤ j → j < q + l → c j < 128 ∧ ψ0 11 j = Int32.ofNat (c j) := by
        intro j x y
        have := b4 (j - q) (by omega)
        rw [show q + (j - q) = j by omega] at this
        unfold zk_dg at this
        exact ⟨by omega, h11 j (by omega) (by omega)⟩
      obtain ⟨m1, m2⟩ := hmn (by rw [k48]; decide)
      refine ⟨q, l, -1, by rw [h7, d2], by rw [h8, d3], h12', h13', b3, b2, by omega, tx, fun ψ hψ => ?_, Or.inl ⟨rfl, by rw [m1, k48], ?_, l5, b4⟩⟩
      · exact ha_nl hF (by omega) b2 (by rw [hψ 11 q (by omega)]; exact (tx q (Nat.le_refl _) (by omega)).2) (tx q (Nat.le_refl _) (by omega)).1 (fun z => nl _ z b1)
      · rw [m2, d4, k48]
        rfl
    · exact absurd z hk1
  · -- a sign
    rcases b5 with ⟨x1, x2⟩ | ⟨_, z⟩
    · have hc := hcb q b0
      subst b4
      have hx1 := x1
      unfold zk_sg at hx1
      have n97 : φ2 6 s ≠ 97 := by rw [x2, show (97 : Int32) = Int32.ofNat 97 from rfl, Ne, ya_eq (by omega) (by omega)]; omega
      have n48 : φ2 6 s ≠ 48 := by rw [x2, show (48 : Int32) = Int32.ofNat 48 from rfl, Ne, ya_eq (by omega) (by omega)]; omega
      have n2 : φ2 6 s ≠ 2 := by rw [x2, show (2 : Int32) = Int32.ofNat 2 from rfl, Ne, ya_eq (by omega) (by omega)]; omega
      have tx : ∀ j, q ≤ j → j < q + 1 → c j < 128 ∧ ψ0 11 j = Int32.ofNat (c j) := by
        intro j x y
        obtain rfl : j = q := by omega
        exact ⟨by omega, h11 j b0 (by omega)⟩
      refine ⟨q, 1, -1, by rw [h7, d2], by rw [h8, d3], h12', h13', by omega, by omega, by omega, tx, fun ψ hψ => ?_, Or.inr (Or.inr ⟨rfl, by rw [(hmn n97).1]; exact n48, by rw [(hmn n97).1]; exact n2, b3⟩)⟩
      exact ha_nl hF (by omega) (by omega) (by rw [hψ 11 q (by omega)]; exact (tx q (Nat.le_refl _) (by omega)).2) (tx q (Nat.le_refl _) (by omega)).1 b2
    · exact absurd z hk1
end S20
