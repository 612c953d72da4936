/-! SEMANTICS: tokens, all that the component reads; the reference's next token -/
def zk_en (φ : qm_F) (s : Nat) : Nat := (φ 7 s).toNatClampNeg + (φ 8 s).toNatClampNeg
def zk_pe (φ : qm_F) (t e s : Nat) : Nat := if s = t then e else zk_en φ (s - 1)
section Z2
variable {F nR n : Nat} {c : Nat → Nat}
theorem zx_add (hF : 4000 ≤ F) {φ : qm_F} (hn : n ≤ 800) (hc : ∀ j, j < n → φ 5 j = Int32.ofNat (c j) ∧ c j < 256) {q l t : Nat} {k : Int32} (ht : φ 4 5 = Int32.ofNat t) (htn : t ≤ n) (hl : q + l ≤ n) (hd : k = 48 → ∀ j, j < l → zk_dg (c (q + j))) (hw : k = 97 → ∀ j, j < l → zk_lt (c (q + j))) : ∃ φ', to_add F nR n φ k (Int32.ofNat q) (Int32.ofNat l) = some φ' ∧ φ' 6 t = k ∧ φ' 7 t = Int32.ofNat q ∧ φ' 8 t = Int32.ofNat l ∧ φ' 9 t = zk_nm c q l k ∧ φ' 4 5 = Int32.ofNat (t + 1) ∧ (∀ a j, ¬ (a = 4 ∧ j = 5) → ¬ ((a = 6 ∨ a = 7 ∨ a = 8 ∨ a = 9) ∧ j = t) → φ' a j = φ a j) := by
  refine ⟨qm_u (qm_u (qm_u (qm_u (qm_u φ 6 t k) 7 t (Int32.ofNat q)) 8 t (Int32.ofNat l)) 9 t (zk_nm c q l k)) 4 5 (Int32.ofNat (t + 1)), ?_, by simp [qm_u], by simp [qm_u], by simp [qm_u], by simp [qm_u], by simp [qm_u], ?_⟩
  · unfold to_add
    have hc2 : ∀ j, j < n → (qm_u (qm_u (qm_u φ 6 t k) 7 t (Int32.ofNat q)) 8 t (Int32.ofNat l)) 5 j = Int32.ofNat (c j) ∧ c j < 256 := fun j hj => hc j hj
    rw [show decide (n + 1 < 2147483648) = true from decide_eq_true (by omega), ht, yi_lt (by omega) (by omega), if_pos (by omega), ya_in (by omega) (by omega), ya_nn (by omega), zx_number hF hn hc2 hl hd hw, ya_add1]
    rfl
  · intro a j h1 h2
    unfold qm_u
    repeat' split
    all_goals first | rfl | omega
theorem zx_read (hF : 4000 ≤ F) (hn : n ≤ 800) (hcb : ∀ j, j < n → c j < 256) : ∀ (m p t e : Nat) (φ : qm_F), n + 2 ≤ m + p → e ≤ p → p ≤ n → t ≤ p → (∀ j, e ≤ j → j < p → zk_bl (c j)) → φ 4 5 = Int32.ofNat t → (∀ j, j < n → φ 5 j = Int32.ofNat (c j)) →
    ∃ φ' cnt, to_read_L2 F nR n m φ (Int32.ofNat p) = some φ' ∧ t < cnt ∧ cnt ≤ n + 1 ∧ φ' 4 5 = Int32.ofNat cnt ∧ (∀ a j, ¬ (a = 4 ∧ j = 5) → ¬ ((a = 6 ∨ a = 7 ∨ a = 8 ∨ a = 9) ∧ t ≤ j) → φ' a j = φ a j) ∧
      (∀ s, t ≤ s → s < cnt → ∃ q l, φ' 7 s = Int32.ofNat q ∧ φ' 8 s = Int32.ofNat l ∧ q ≤ n ∧ l ≤ n ∧ zk_tok c n (zk_pe φ' t e s) q l (φ' 6 s) ∧ φ' 9 s = zk_nm c q l (φ' 6 s) ∧ ((φ' 6 s = 0 ∨ φ' 6 s = 1) ↔ s + 1 = cnt)) := by
  intro m
  induction m with
  | zero => intro p t e φ h1 h2 h3; omega
  | succ m ih =>
    intro p t e φ h1 h2 h3 h4 h5 h6 h7
    have hc : ∀ j, j < n → φ 5 j = Int32.ofNat (c j) ∧ c j < 256 := fun j hj => ⟨h7 j hj, hcb j hj⟩
    by_cases z : n ≤ p
    · -- the end
      have hp : p = n := by omega
      obtain ⟨φ1, e1, k6, k7, k8, k9, k4, f1⟩ := zx_add (nR := nR) (q := n) (l := 0) (k := 0) hF hn hc h6 (by omega) (by omega) (fun z => absurd z (by decide)) (fun z => absurd z (by decide))
      refine ⟨φ1, t + 1, ?_, by omega, by omega, k4, fun a j x1 x2 => f1 a j x1 (by omega), fun s s1 s2 => ?_⟩
      · unfold to_read_L2
        rw [zx_n hn, yi_le (by omega) (by omega), if_pos z]
        simp only [yg1]
        rw [show to_add F nR n φ 0 (Int32.ofNat n) 0 = _ from e1]
        rfl
      · have : s = t := by omega
        subst this
        refine ⟨n, 0, k7, k8, Nat.le_refl _, by omega, ?_, by rw [k6]; exact k9, ?_⟩
        · unfold zk_pe
          rw [if_pos rfl, k6]
          exact ⟨by omega, Nat.le_refl _, fun j x1 x2 => h5 j x1 (by omega), Or.inl ⟨rfl, rfl, rfl⟩⟩
        · rw [k6]
          exact ⟨fun _ => rfl, fun _ => Or.inl rfl⟩
    · have hp : p < n := by omega
      have hcp := hc p hp
      have e32 : (32 : Int32) = Int32.ofNat 32 := rfl
      have e10 : (10 : Int32) = Int32.ofNat 10 := rfl
      have hst : to_read_L2 F nR n (m + 1) φ (Int32.ofNat p) = if (c p = 32 ∨ c p = 10) then to_read_L2 F nR n m φ (Int32.ofNat (p + 1)) else (qb1 (to_bytesTogether F nR n φ (Int32.ofNat p)) fun y1 => qb1 (to_kindAt F nR n φ (Int32.ofNat p) y1) fun y2 => qb1 (to_add F nR n φ y2 (Int32.ofNat p) y1) fun φ2 => if ¬ y2 = 1 then to_read_L2 F nR n m φ2 ((Int32.ofNat p + (y1 - 1)) + 1) else some φ2) := by
        conv => lhs; unfold to_read_L2
        rw [zx_n hn, yi_le (by omega) (by omega), if_neg z, ya_in (by omega) hp, ya_nn (by omega), hcp.1, ya_add1]
        simp only [yg1]
        rw [e32, e10, yi_eq (by omega) (by omega)]
        by_cases w1 : c p = 32
        · rw [if_pos w1, if_pos (Or.inl w1)]
        · rw [if_neg w1]
          by_cases w2 : c p = 10
          · rw [if_neg (by rw [ya_eq (by omega) (by omega)]; simp [w2]), if_pos (Or.inr w2)]
          · rw [if_pos (by rw [ya_eq (by omega) (by omega)]; exact w2), if_neg (by omega)]
      by_cases w : c p = 32 ∨ c p = 10
      · rw [hst, if_pos w]
        exact ih (p + 1) t e φ (by omega) (by omega) (by omega) (by omega) (fun j x1 x2 => by
          by_cases y : j = p
          · subst y; exact w
          · exact h5 j x1 (by omega)) h6 h7
      · rw [if_neg w] at hst
        obtain ⟨l, k, x1, x2, htok, l1, l2, hd, hw, hk0⟩ := zx_one (nR := nR) hF hn hc hp h2 h5 w
        obtain ⟨φ1, e1, k6, k7, k8, k9, k4, f1⟩ := zx_add (nR := nR) hF hn hc h6 (by omega) l2 hd hw
        rw [x1] at hst
        simp only [yb1] at hst
        rw [x2] at hst
        simp only [yb1] at hst
        rw [e1] at hst
        simp only [yb1] at hst
        by_cases q1 : k = 1
        · rw [if_neg (by simp [q1])] at hst
          refine ⟨φ1, t + 1, hst, by omega, by omega, k4, fun a j y1 y2 => f1 a j y1 (by omega), fun s s1 s2 => ?_⟩
          have : s = t := by omega
          subst this
          refine ⟨p, l, k7, k8, by omega, by omega, ?_, by rw [k6]; exact k9, ?_⟩
          · unfold zk_pe
            rw [if_pos rfl, k6]
            exact htok
          · rw [k6]
            exact ⟨fun _ => rfl, fun _ => Or.inr q1⟩
        · rw [if_pos q1, ya_sub1 l1, ya_add, ya_add1, show p + (l - 1) + 1 = p + l by omega] at hst
          obtain ⟨φ2, cnt, e2, c1, c2, c3, c4, c5⟩ := ih (p + l) (t + 1) (p + l) φ1 (by omega) (Nat.le_refl _) l2 (by omega) (fun j y1 y2 => by omega) k4 (fun j hj => by rw [f1 5 j (by omega) (by omega)]; exact h7 j hj)
          rw [e2] at hst
          have g6 : φ2 6 t = k := by rw [c4 6 t (by omega) (by omega)]; exact k6
          have g7 : φ2 7 t = Int32.ofNat p := by rw [c4 7 t (by omega) (by omega)]; exact k7
          have g8 : φ2 8 t = Int32.ofNat l := by rw [c4 8 t (by omega) (by omega)]; exact k8
          have g9 : φ2 9 t = zk_nm c p l k := by rw [c4 9 t (by omega) (by omega)]; exact k9
          refine ⟨φ2, cnt, hst, by omega, c2, c3, fun a j y1 y2 => by rw [c4 a j y1 (by omega), f1 a j y1 (by omega)], fun s s1 s2 => ?_⟩
          by_cases y : s = t
          · subst y
            refine ⟨p, l, g7, g8, by omega, by omega, ?_, by rw [g6]; exact g9, ?_⟩
            · unfold zk_pe
              rw [if_pos rfl, g6]
              exact htok
            · rw [g6]
              constructor
              · rintro (z1 | z1)
                · exact absurd z1 hk0
                · exact absurd z1 q1
              · intro z1; omega
          · obtain ⟨q, l', d1, d2, d3, d4, d5, d6, d7⟩ := c5 s (by omega) s2
            refine ⟨q, l', d1, d2, d3, d4, ?_, d6, d7⟩
            have : zk_pe φ2 t e s = zk_pe φ2 (t + 1) (p + l) s := by
              unfold zk_pe
              rw [if_neg y]
              by_cases y2 : s = t + 1
              · rw [if_pos y2, y2]
                unfold zk_en
                rw [show t + 1 - 1 = t by omega, g7, g8, ya_nn (by omega), ya_nn (by omega)]
              · rw [if_neg y2]
            rw [this]
            exact d5
/-! the reference -/
theorem zm_sh (x d : Nat) (hd : d < 32) : (Int32.ofNat x <<< ((5 : Int32) &&& 31)) ||| Int32.ofNat d = Int32.ofNat (x * 32 + d) := by
  apply Int32.toBitVec_inj.mp
  rw [Int32.toBitVec_or, Int32.toBitVec_shiftLeft]
  have e : ((5 : Int32) &&& 31).toBitVec.smod 32 = 5#32 := by decide
  rw [e]
  show (BitVec.ofNat 32 x <<< (5#32).toNat ||| BitVec.ofNat 32 d) = BitVec.ofNat 32 (x * 32 + d)
  have e2 : (5#32).toNat = 5 := by decide
  rw [e2]
  apply BitVec.eq_of_toNat_eq
  rw [BitVec.toNat_or, BitVec.toNat_shiftLeft, BitVec.toNat_ofNat, BitVec.toNat_ofNat, BitVec.toNat_ofNat]
  have h1 : d % 2 ^ 32 = d := Nat.mod_eq_of_lt (by omega)
  rw [h1]
  have h2 : (x % 2 ^ 32) <<< 5 % 2 ^ 32 = (x % 2 ^ 27) <<< 5 := by
    rw [Nat.shiftLeft_eq, Nat.shiftLeft_eq]
    omega
  rw [h2, ← Nat.shiftLeft_add_eq_or_of_lt (show d < 2 ^ 5 by omega), Nat.shiftLeft_eq]
  omega
variable {ψ : qm_F}
theorem zm_see (hT : yk_TX (fun j => Int32.ofNat (c j)) n ψ) (hn : n ≤ 800) {k : Nat} (hk : k ≤ 2000) : mo_see F ψ (Int32.ofNat k) = some (if k < n then Int32.ofNat (c k) else -1) := by
  unfold mo_see
  rw [hT.1, yi_le (by omega) (by omega)]
  by_cases z : k < n
  · rw [if_neg (by omega), if_pos z, ya_in (by omega) (by omega), ya_nn (by omega), hT.2 k z]
    rfl
  · rw [if_pos (by omega), if_neg z]
theorem zm_wi (x lo hi : Nat) (hx : x < 256) (hl : lo < 256) (hh : hi < 256) : mo_within F ψ (Int32.toInt64 (Int32.ofNat x)) (Int32.toInt64 (Int32.ofNat lo)) (Int32.toInt64 (Int32.ofNat hi)) = some (if lo ≤ x ∧ x ≤ hi then 1 else 0) := by
  rw [ys_wi, yi_lt (by omega) (by omega), yi_le (by omega) (by omega)]
  by_cases q : lo ≤ x ∧ x ≤ hi
  · rw [if_neg (by omega), if_pos (by omega), if_pos q]
  · rw [if_neg q]
    split
    · rfl
    · rw [if_neg (by omega)]
theorem zm_wn (lo hi : Nat) (hl : lo < 256) (hh : hi < 256) : mo_within F ψ (Int32.toInt64 (-1)) (Int32.toInt64 (Int32.ofNat lo)) (Int32.toInt64 (Int32.ofNat hi)) = some 0 := by
  rw [ys_wi, if_pos]
  rw [Int32.lt_iff_toInt_lt, ya_int (by omega)]
  have : (-1 : Int32).toInt = -1 := rfl
  omega
/-- what steps may touch -/
def zm_f (ψ ψ' : qm_F) : Prop := ∀ a j, ¬ (a = 0 ∧ 4 ≤ j ∧ j ≤ 8) → ψ' a j = ψ a j
theorem zm_f.tx {ψ' : qm_F} (h : zm_f ψ ψ') (hT : yk_TX (fun j => Int32.ofNat (c j)) n ψ) : yk_TX (fun j => Int32.ofNat (c j)) n ψ' := ⟨by rw [h 0 3 (by omega)]; exact hT.1, fun j hj => by rw [h 1 j (by omega)]; exact hT.2 j hj⟩
theorem zm_u (i : Nat) (v : Int32) (hi : 4 ≤ i ∧ i ≤ 8) : zm_f ψ (qm_u ψ 0 i v) := by
  intro a j hh
  unfold qm_u
  repeat' split
  all_goals first | rfl | omega
theorem zm_f.trans {ψ' ψ'' : qm_F} (h : zm_f ψ ψ') (h' : zm_f ψ' ψ'') : zm_f ψ ψ'' := fun a j hh => (h' a j hh).trans (h a j hh)
theorem zm_letters (hn : n ≤ 800) (hcb : ∀ j, j < n → c j < 256) {q l : Nat} (hl : q + l ≤ n) (h1 : ∀ j, j < l → zk_lt (c (q + j))) (h2 : q + l < n → ¬ zk_lt (c (q + l))) : ∀ (m i : Nat) (ψ : qm_F), 2 * l + 2 ≤ m + 2 * i → i ≤ l → yk_TX (fun j => Int32.ofNat (c j)) n ψ → ψ 0 4 = Int32.ofNat q → ψ 0 5 = Int32.ofNat (q + i) → ψ 0 8 = Int32.ofNat (zk_w 32 c q (min i 6)) → ∃ ψ', mo_steps_L139 F m 0 ψ 0 = some ψ' ∧ zm_f ψ ψ' ∧ ψ' 0 4 = Int32.ofNat q ∧ ψ' 0 5 = Int32.ofNat (q + l) ∧ ψ' 0 6 = (if l ≤ 6 then 1 else 4) ∧ ψ' 0 8 = Int32.ofNat (zk_w 32 c q (min l 6)) := by
  intro m
  induction m using Nat.strongRecOn with
  | _ m ih =>
    intro i ψ a1 a2 hT a4 a5 a8
    obtain ⟨m, rfl⟩ : ∃ z, m = z + 1 := ⟨m - 1, by omega⟩
    have hst : mo_steps_L139 F (m + 1) 0 ψ 0 = if q + i < n ∧ (97 ≤ c (q + i) ∧ c (q + i) ≤ 122) then (if 6 ≤ i then mo_steps_L139 F m 1 ψ (Int32.ofNat (zk_w 32 c q (min i 6))) else mo_steps_L139 F m 1 ψ (Int32.ofNat (zk_w 32 c q (i + 1)))) else (if 7 ≤ i then some (qm_u ψ 0 6 4) else some (qm_u ψ 0 6 1)) := by
      conv => lhs; unfold mo_steps_L139
      rw [if_pos rfl, a5, a4, zm_see hT hn (by omega), a8, ya_sub (by omega), show q + i - q = i by omega]
      simp only [yb1]
      rw [show (97 : Int64) = Int32.toInt64 (Int32.ofNat 97) from by decide, show (122 : Int64) = Int32.toInt64 (Int32.ofNat 122) from by decide, show (7 : Int32) = Int32.ofNat 7 from rfl, show (6 : Int32) = Int32.ofNat 6 from rfl, yi_le (by omega) (by omega), yi_le (by omega) (by omega)]
      by_cases z : q + i < n
      · rw [if_pos z, zm_wi _ _ _ (hcb _ z) (by omega) (by omega)]
        simp only [yb1]
        by_cases w : 97 ≤ c (q + i) ∧ c (q + i) ≤ 122
        · have hh : q + i < n ∧ (97 ≤ c (q + i) ∧ c (q + i) ≤ 122) := ⟨z, w⟩
          rw [if_pos w, if_neg (by decide), if_pos hh]
          by_cases y : 6 ≤ i
          · rw [if_pos y, if_pos y]
          · rw [if_neg y, if_neg y, show min i 6 = i by omega, show Int32.ofNat (c (q + i)) - 96 = Int32.ofNat (c (q + i) - 96) from ya_sub (a := c (q + i)) (b := 96) (by omega), zm_sh _ _ (by omega)]
            rfl
        · have hh : ¬ (q + i < n ∧ (97 ≤ c (q + i) ∧ c (q + i) ≤ 122)) := fun z => w z.2
          rw [if_neg w, if_pos (by first | trivial | decide), if_neg hh]
      · rw [if_neg z, zm_wn _ _ (by omega) (by omega)]
        simp only [yb1]
        have hh : ¬ (q + i < n ∧ (97 ≤ c (q + i) ∧ c (q + i) ≤ 122)) := fun y => z y.1
        rw [if_pos (by first | trivial | decide), if_neg hh]
    by_cases z : i = l
    · subst z
      rw [if_neg (fun z => h2 z.1 z.2)] at hst
      by_cases y : 7 ≤ i
      · rw [if_pos y] at hst
        exact ⟨_, hst, zm_u 6 _ (by omega), a4, a5, by rw [if_neg (by omega)]; rfl, a8⟩
      · rw [if_neg y] at hst
        exact ⟨_, hst, zm_u 6 _ (by omega), a4, a5, by rw [if_pos (by omega)]; rfl, a8⟩
    · have hw := h1 i (by omega)
      rw [if_pos ⟨by omega, hw⟩] at hst
      obtain ⟨m, rfl⟩ : ∃ z, m = z + 1 := ⟨m - 1, by omega⟩
      have h3 : mo_steps_L139 F (m + 1 + 1) 0 ψ 0 = mo_steps_L139 F m 0 (qm_u (qm_u ψ 0 8 (Int32.ofNat (zk_w 32 c q (min (i + 1) 6)))) 0 5 (Int32.ofNat (q + (i + 1)))) 0 := by
        rw [hst]
        have tg : ∀ s, mo_steps_L139 F (m + 1) 1 ψ s = mo_steps_L139 F m 0 (qm_u (qm_u ψ 0 8 s) 0 5 (Int32.ofNat (q + (i + 1)))) 0 := by
          intro s
          conv => lhs; unfold mo_steps_L139
          rw [if_neg (by omega), a5, ya_add1]
          rfl
        rw [tg, tg]
        by_cases y : 6 ≤ i
        · rw [if_pos y, show min i 6 = min (i + 1) 6 by omega]
        · rw [if_neg y, show min (i + 1) 6 = i + 1 by omega]
      have fr : zm_f ψ (qm_u (qm_u ψ 0 8 (Int32.ofNat (zk_w 32 c q (min (i + 1) 6)))) 0 5 (Int32.ofNat (q + (i + 1)))) := (zm_u 8 _ (by omega)).trans (zm_u 5 _ (by omega))
      obtain ⟨ψ', e, f, r⟩ := ih m (by omega) (i + 1) _ (by omega) (by omega) (fr.tx hT) a4 rfl rfl
      exact ⟨ψ', h3.trans e, fr.trans f, r⟩
theorem zm_digits (hn : n ≤ 800) (hcb : ∀ j, j < n → c j < 256) {q l : Nat} (hl : q + l ≤ n) (h1 : ∀ j, j < l → zk_dg (c (q + j))) (h2 : q + l < n → ¬ zk_dg (c (q + l))) : ∀ (m i : Nat) (ψ : qm_F), 2 * l + 2 ≤ m + 2 * i → i ≤ l → yk_TX (fun j => Int32.ofNat (c j)) n ψ → ψ 0 4 = Int32.ofNat q → ψ 0 5 = Int32.ofNat (q + i) → ψ 0 7 = Int32.ofNat (zk_v c q (min i 5)) → ∃ ψ', mo_steps_L264 F m 0 ψ 0 = some ψ' ∧ zm_f ψ ψ' ∧ ψ' 0 4 = Int32.ofNat q ∧ ψ' 0 5 = Int32.ofNat (q + l) ∧ ψ' 0 6 = (if l ≤ 5 then 2 else 4) ∧ ψ' 0 7 = Int32.ofNat (zk_v c q (min l 5)) := by
  intro m
  induction m using Nat.strongRecOn with
  | _ m ih =>
    intro i ψ a1 a2 hT a4 a5 a8
    obtain ⟨m, rfl⟩ : ∃ z, m = z + 1 := ⟨m - 1, by omega⟩
    have hst : mo_steps_L264 F (m + 1) 0 ψ 0 = if q + i < n ∧ (48 ≤ c (q + i) ∧ c (q + i) ≤ 57) then (if 5 ≤ i then mo_steps_L264 F m 1 ψ (Int32.ofNat (zk_v c q (min i 5))) else mo_steps_L264 F m 1 ψ (Int32.ofNat (zk_v c q (i + 1)))) else (if 6 ≤ i then some (qm_u ψ 0 6 4) else some (qm_u ψ 0 6 2)) := by
      conv => lhs; unfold mo_steps_L264
      rw [if_pos rfl, a5, a4, zm_see hT hn (by omega), a8, ya_sub (by omega), show q + i - q = i by omega]
      simp only [yb1]
      rw [show (48 : Int64) = Int32.toInt64 (Int32.ofNat 48) from by decide, show (57 : Int64) = Int32.toInt64 (Int32.ofNat 57) from by decide, show (6 : Int32) = Int32.ofNat 6 from rfl, show (5 : Int32) = Int32.ofNat 5 from rfl, yi_le (by omega) (by omega), yi_le (by omega) (by omega)]
      by_cases z : q + i < n
      · rw [if_pos z, zm_wi _ _ _ (hcb _ z) (by omega) (by omega)]
        simp only [yb1]
        by_cases w : 48 ≤ c (q + i) ∧ c (q + i) ≤ 57
        · have hh : q + i < n ∧ (48 ≤ c (q + i) ∧ c (q + i) ≤ 57) := ⟨z, w⟩
          rw [if_pos w, if_neg (by decide), if_pos hh]
          by_cases y : 5 ≤ i
          · rw [if_pos y, if_pos y]
          · have e : (10 : Int32) * Int32.ofNat (zk_v c q i) + Int32.ofNat (c (q + i)) - 48 = Int32.ofNat (zk_v c q (i + 1)) := by
              rw [show (10 : Int32) * Int32.ofNat (zk_v c q i) = Int32.ofNat (10 * zk_v c q i) from ya_mul 10 _, ya_add]
              rw [show Int32.ofNat (10 * zk_v c q i + c (q + i)) - 48 = Int32.ofNat (10 * zk_v c q i + c (q + i) - 48) from ya_sub (a := 10 * zk_v c q i + c (q + i)) (b := 48) (by omega)]
              congr 1
              show 10 * zk_v c q i + c (q + i) - 48 = zk_v c q i * 10 + (c (q + i) - 48)
              omega
            rw [if_neg y, if_neg y, show min i 5 = i by omega, e]
        · have hh : ¬ (q + i < n ∧ (48 ≤ c (q + i) ∧ c (q + i) ≤ 57)) := fun z => w z.2
          rw [if_neg w, if_pos (by first | trivial | decide), if_neg hh]
      · rw [if_neg z, zm_wn _ _ (by omega) (by omega)]
        simp only [yb1]
        have hh : ¬ (q + i < n ∧ (48 ≤ c (q + i) ∧ c (q + i) ≤ 57)) := fun y => z y.1
        rw [if_pos (by first | trivial | decide), if_neg hh]
    by_cases z : i = l
    · subst z
      rw [if_neg (fun z => h2 z.1 z.2)] at hst
      by_cases y : 6 ≤ i
      · rw [if_pos y] at hst
        exact ⟨_, hst, zm_u 6 _ (by omega), a4, a5, by rw [if_neg (by omega)]; rfl, a8⟩
      · rw [if_neg y] at hst
        exact ⟨_, hst, zm_u 6 _ (by omega), a4, a5, by rw [if_pos (by omega)]; rfl, a8⟩
    · have hw := h1 i (by omega)
      rw [if_pos ⟨by omega, hw⟩] at hst
      obtain ⟨m, rfl⟩ : ∃ z, m = z + 1 := ⟨m - 1, by omega⟩
      have h3 : mo_steps_L264 F (m + 1 + 1) 0 ψ 0 = mo_steps_L264 F m 0 (qm_u (qm_u ψ 0 7 (Int32.ofNat (zk_v c q (min (i + 1) 5)))) 0 5 (Int32.ofNat (q + (i + 1)))) 0 := by
        rw [hst]
        have tg : ∀ s, mo_steps_L264 F (m + 1) 1 ψ s = mo_steps_L264 F m 0 (qm_u (qm_u ψ 0 7 s) 0 5 (Int32.ofNat (q + (i + 1)))) 0 := by
          intro s
          conv => lhs; unfold mo_steps_L264
          rw [if_neg (by omega), a5, ya_add1]
          rfl
        rw [tg, tg]
        by_cases y : 5 ≤ i
        · rw [if_pos y, show min i 5 = min (i + 1) 5 by omega]
        · rw [if_neg y, show min (i + 1) 5 = i + 1 by omega]
      have fr : zm_f ψ (qm_u (qm_u ψ 0 7 (Int32.ofNat (zk_v c q (min (i + 1) 5)))) 0 5 (Int32.ofNat (q + (i + 1)))) := (zm_u 7 _ (by omega)).trans (zm_u 5 _ (by omega))
      obtain ⟨ψ', e, f, r⟩ := ih m (by omega) (i + 1) _ (by omega) (by omega) (fr.tx hT) a4 rfl rfl
      exact ⟨ψ', h3.trans e, fr.trans f, r⟩
end Z2
