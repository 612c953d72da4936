/-! SEMANTICS: tokens, both sides alike -/
def zk_sp (j : Nat) : Int32 := Int32.ofNat (zk_w 32 zk_kwc (6 * j) (zk_kl.getD j 0))
def zk_fo (f : Nat → Bool) : Nat → Nat → Int32
  | _, 0 => -1
  | j, k + 1 => if f j = true then Int32.ofNat j else zk_fo f (j + 1) k
section Z3
variable {F nR n : Nat} {c : Nat → Nat} {ψ : qm_F}
theorem zm_sb (x : Nat) (hx : x < 256) : mo_isSignByte F ψ (Int32.ofNat x) = some (if x = 59 ∨ x = 61 ∨ x = 38 ∨ x = 124 ∨ x = 94 ∨ x = 60 ∨ x = 43 ∨ x = 45 ∨ x = 42 ∨ x = 47 ∨ x = 37 ∨ x = 126 ∨ x = 40 ∨ x = 41 ∨ x = 123 ∨ x = 125 then 1 else 0) := by
  have : ∀ x, x < 256 → mo_isSignByte 0 (fun _ _ => 0) (Int32.ofNat x) = some (if x = 59 ∨ x = 61 ∨ x = 38 ∨ x = 124 ∨ x = 94 ∨ x = 60 ∨ x = 43 ∨ x = 45 ∨ x = 42 ∨ x = 47 ∨ x = 37 ∨ x = 126 ∨ x = 40 ∨ x = 41 ∨ x = 123 ∨ x = 125 then 1 else 0) := by decide +kernel
  exact this x hx
theorem zm_L8 (hF : 4000 ≤ F) (hn : n ≤ 800) (hcb : ∀ j, j < n → c j < 256) {e q l : Nat} {k : Int32} (htok : zk_tok c n e q l k) : ∀ (m p : Nat) (ψ : qm_F), q + 2 ≤ m + p → e ≤ p → p ≤ q → yk_TX (fun j => Int32.ofNat (c j)) n ψ → ψ 0 4 = Int32.ofNat p → ∃ ψ', mo_steps_L8 F m ψ = some ψ' ∧ zm_f ψ ψ' ∧ ψ' 0 4 = Int32.ofNat q ∧ ψ' 0 5 = Int32.ofNat (q + l) ∧ ψ' 0 6 = yk_cls k ∧ (k = 48 → ψ' 0 7 = Int32.ofNat (zk_v c q l)) ∧ (yk_cls k = 1 → ψ' 0 8 = Int32.ofNat (zk_w 32 c q l)) := by
  obtain ⟨t1, t2, t3, t4⟩ := htok
  intro m
  induction m with
  | zero => intro p ψ h1 h2 h3; omega
  | succ m ih =>
    intro p ψ h1 h2 h3 hT h4
    have e32 : (32 : Int32) = Int32.ofNat 32 := rfl
    have e10 : (10 : Int32) = Int32.ofNat 10 := rfl
    by_cases z : p < q
    · -- a blank
      have hb := t3 p h2 z
      have hst : mo_steps_L8 F (m + 1) ψ = mo_steps_L8 F m (qm_u ψ 0 4 (Int32.ofNat (p + 1))) := by
        conv => lhs; unfold mo_steps_L8
        have hcp := hcb p (by omega)
        rw [h4, zm_see hT hn (by omega), if_pos (by omega), ya_add1]
        simp only [yb1]
        rw [e32, e10, yi_eq (by omega) (by omega)]
        unfold zk_bl at hb
        by_cases w : c p = 32
        · rw [if_pos w]
        · rw [if_neg w, if_neg]
          rw [ya_eq (by omega) (by omega)]
          omega
      obtain ⟨ψ', e1, f, r⟩ := ih (p + 1) _ (by omega) (by omega) (by omega) ((zm_u 4 _ (by omega)).tx hT) rfl
      exact ⟨ψ', hst.trans e1, (zm_u 4 _ (by omega)).trans f, r⟩
    · have hp : p = q := by omega
      subst hp
      obtain ⟨ψ1, e1⟩ : ∃ ψ1, ψ1 = qm_u (qm_u (qm_u (qm_u ψ 0 5 (Int32.ofNat (p + 1))) 0 6 4) 0 7 0) 0 8 0 := ⟨_, rfl⟩
      have f1 : zm_f ψ ψ1 := by
        rw [e1]
        exact (((zm_u 5 _ (by omega)).trans (zm_u 6 _ (by omega))).trans (zm_u 7 _ (by omega))).trans (zm_u 8 _ (by omega))
      have g4 : ψ1 0 4 = Int32.ofNat p := by rw [e1]; exact h4
      have g5 : ψ1 0 5 = Int32.ofNat (p + 1) := by rw [e1]; rfl
      have g6 : ψ1 0 6 = 4 := by rw [e1]; rfl
      have g7 : ψ1 0 7 = 0 := by rw [e1]; rfl
      have g8 : ψ1 0 8 = 0 := by rw [e1]; rfl
      have fa : ∀ i v, 4 ≤ i → i ≤ 8 → zm_f ψ (qm_u ψ1 0 i v) := fun i v x1 x2 => f1.trans (zm_u i v ⟨x1, x2⟩)
      by_cases zn : p = n
      · -- the end
        have hk : k = 0 ∧ l = 0 := by
          rcases t4 with ⟨_, a, b⟩ | ⟨a, _⟩ | ⟨a, _⟩ | ⟨a, _⟩
          · exact ⟨a, b⟩
          · omega
          · omega
          · omega
        refine ⟨qm_u (qm_u ψ1 0 5 (Int32.ofNat p)) 0 6 0, ?_, (fa 5 _ (by omega) (by omega)).trans (zm_u 6 _ (by omega)), g4, by rw [hk.2]; rfl, by rw [hk.1]; rfl, fun z => by rw [hk.1] at z; exact absurd z (by decide), fun z => by rw [hk.1] at z; exact absurd z (by decide)⟩
        unfold mo_steps_L8
        rw [h4, zm_see hT hn (by omega), if_neg (by omega), ya_add1]
        simp only [yb1]
        rw [if_neg (by decide), if_pos (by decide), if_neg (by simp), ← e1]
      · have hpn : p < n := by omega
        have hcp := hcb p hpn
        have hnb : ¬ (c p = 32) ∧ ¬ (c p = 10) := by
          rcases t4 with ⟨a, _⟩ | ⟨_, a, _⟩ | ⟨_, a, _⟩ | ⟨_, a, _⟩
          · exact absurd a zn
          · unfold zk_lt at a; omega
          · unfold zk_dg at a; omega
          · unfold zk_bl at a; omega
        have hst : mo_steps_L8 F (m + 1) ψ = (if c p = 59 ∨ c p = 61 ∨ c p = 38 ∨ c p = 124 ∨ c p = 94 ∨ c p = 60 ∨ c p = 43 ∨ c p = 45 ∨ c p = 42 ∨ c p = 47 ∨ c p = 37 ∨ c p = 126 ∨ c p = 40 ∨ c p = 41 ∨ c p = 123 ∨ c p = 125 then some (qm_u ψ1 0 6 3) else if 97 ≤ c p ∧ c p ≤ 122 then mo_steps_L139 F F 0 (qm_u ψ1 0 5 (Int32.ofNat p)) 0 else if 48 ≤ c p ∧ c p ≤ 57 then mo_steps_L264 F F 0 (qm_u ψ1 0 5 (Int32.ofNat p)) 0 else some ψ1) := by
          conv => lhs; unfold mo_steps_L8
          rw [h4, zm_see hT hn (by omega), if_pos hpn, ya_add1]
          simp only [yb1]
          rw [e32, e10, yi_eq (by omega) (by omega), if_neg hnb.1, if_pos (by rw [ya_eq (by omega) (by omega)]; exact hnb.2), if_pos, ← e1]
          · rw [zm_sb _ hcp, show (97 : Int64) = Int32.toInt64 (Int32.ofNat 97) from by decide, show (122 : Int64) = Int32.toInt64 (Int32.ofNat 122) from by decide, show (48 : Int64) = Int32.toInt64 (Int32.ofNat 48) from by decide, show (57 : Int64) = Int32.toInt64 (Int32.ofNat 57) from by decide, zm_wi _ _ _ hcp (by omega) (by omega), zm_wi _ _ _ hcp (by omega) (by omega)]
            simp only [yb1]
            by_cases s1 : c p = 59 ∨ c p = 61 ∨ c p = 38 ∨ c p = 124 ∨ c p = 94 ∨ c p = 60 ∨ c p = 43 ∨ c p = 45 ∨ c p = 42 ∨ c p = 47 ∨ c p = 37 ∨ c p = 126 ∨ c p = 40 ∨ c p = 41 ∨ c p = 123 ∨ c p = 125
            · simp only [s1, if_true]
              rw [if_neg (by decide)]
            · simp only [s1, if_false]
              rw [if_pos (by first | trivial | decide)]
              by_cases s2 : 97 ≤ c p ∧ c p ≤ 122
              · simp only [s2, and_self, if_true]
                rw [if_neg (by decide)]
              · simp only [s2, if_false]
                rw [if_pos (by first | trivial | decide)]
                by_cases s3 : 48 ≤ c p ∧ c p ≤ 57
                · simp only [s3, and_self, if_true]
                  rw [if_neg (by decide)]
                · simp only [s3, if_false]
                  rw [if_pos (by first | trivial | decide)]
          · intro z1
            exact ya_lt0 (a := c p) (by omega) (by rw [z1]; decide)
        rcases t4 with ⟨a, _⟩ | ⟨_, b1, b2, b3, b4, b5, b6⟩ | ⟨_, b1, b2, b3, b4, b5, b6⟩ | ⟨_, b1, b2, b3, b4, b5⟩
        · exact absurd a zn
        · -- a word
          have b1' := b1
          unfold zk_lt at b1'
          rw [if_neg (by omega), if_pos b1'] at hst
          obtain ⟨ψ', e2, f2, r4, r5, r6, r8⟩ := zm_letters (F := F) hn hcb b3 b4 b5 F 0 (qm_u ψ1 0 5 (Int32.ofNat p)) (by omega) (by omega) ((fa 5 _ (by omega) (by omega)).tx hT) g4 rfl (by show ψ1 0 8 = _; rw [g8]; rfl)
          have kc : ψ' 0 6 = yk_cls k ∧ (yk_cls k = 1 → l ≤ 6) ∧ k ≠ 48 := by
            rcases b6 with ⟨x1, x2⟩ | ⟨x1, x2⟩
            · rw [r6, if_pos x1]
              rcases x2 with ⟨j, y1, y2, y3, y4⟩ | ⟨y1, y2⟩
              · refine ⟨?_, fun _ => x1, ?_⟩
                · have hk : ∀ j, j < 13 → 1 = yk_cls (Int32.ofNat (128 + j)) := by decide +kernel
                  rw [y4]; exact hk j y1
                · rw [y4, show (48 : Int32) = Int32.ofNat 48 from rfl]
                  intro z1
                  rw [ya_eq (by omega) (by omega)] at z1
                  omega
              · rw [y2]
                exact ⟨by decide, fun _ => x1, by decide⟩
            · rw [r6, if_neg (by omega), x2]
              exact ⟨by decide, fun z => absurd z (by decide), by decide⟩
          exact ⟨ψ', hst.trans e2, (fa 5 _ (by omega) (by omega)).trans f2, r4, r5, kc.1, fun z => absurd z kc.2.2, fun z => by rw [r8, show min l 6 = l from Nat.min_eq_left (kc.2.1 z)]⟩
        · have b1' := b1
          unfold zk_dg at b1'
          rw [if_neg (by omega), if_neg (by omega), if_pos b1'] at hst
          obtain ⟨ψ', e2, f2, r4, r5, r6, r8⟩ := zm_digits (F := F) hn hcb b3 b4 b5 F 0 (qm_u ψ1 0 5 (Int32.ofNat p)) (by omega) (by omega) ((fa 5 _ (by omega) (by omega)).tx hT) g4 rfl (by show ψ1 0 7 = _; rw [g7]; rfl)
          refine ⟨ψ', hst.trans e2, (fa 5 _ (by omega) (by omega)).trans f2, r4, r5, ?_, fun z => ?_, fun z => ?_⟩
          · rcases b6 with ⟨x1, x2⟩ | ⟨x1, x2⟩
            · rw [r6, if_pos x1, x2]; decide
            · rw [r6, if_neg (by omega), x2]; decide
          · rcases b6 with ⟨x1, x2⟩ | ⟨x1, x2⟩
            · rw [r8, Nat.min_eq_left x1]
            · rw [x2] at z; exact absurd z (by decide)
          · rcases b6 with ⟨x1, x2⟩ | ⟨x1, x2⟩
            · rw [x2] at z; exact absurd z (by decide)
            · rw [x2] at z; exact absurd z (by decide)
        · unfold zk_lt at b2
          unfold zk_dg at b3
          rcases b5 with ⟨x1, x2⟩ | ⟨x1, x2⟩
          · have x1' := x1
            unfold zk_sg at x1'
            rw [if_pos x1'] at hst
            have kc : ∀ x, x < 256 → (x = 59 ∨ x = 61 ∨ x = 38 ∨ x = 124 ∨ x = 94 ∨ x = 60 ∨ x = 43 ∨ x = 45 ∨ x = 42 ∨ x = 47 ∨ x = 37 ∨ x = 126 ∨ x = 40 ∨ x = 41 ∨ x = 123 ∨ x = 125) → 3 = yk_cls (Int32.ofNat x) ∧ Int32.ofNat x ≠ 48 := by decide +kernel
            obtain ⟨y1, y2⟩ := kc (c p) hcp x1'
            refine ⟨_, hst, fa 6 _ (by omega) (by omega), g4, by rw [b4]; exact g5, by rw [x2]; exact y1, fun z => ?_, fun z => ?_⟩
            · rw [x2] at z; exact absurd z y2
            · rw [x2, ← y1] at z; exact absurd z (by decide)
          · unfold zk_sg at x1
            rw [if_neg x1, if_neg b2, if_neg b3] at hst
            exact ⟨_, hst, f1, g4, by rw [b4]; exact g5, by rw [x2]; exact g6, fun z => by rw [x2] at z; exact absurd z (by decide), fun z => by rw [x2] at z; exact absurd z (by decide)⟩
theorem zm_step (hF : 4000 ≤ F) (hn : n ≤ 800) (hcb : ∀ j, j < n → c j < 256) {e q l : Nat} {k : Int32} (htok : zk_tok c n e q l k) (hT : yk_TX (fun j => Int32.ofNat (c j)) n ψ) (h5 : ψ 0 5 = Int32.ofNat e) : ∃ ψ', mo_steps F ψ = some ψ' ∧ zm_f ψ ψ' ∧ ψ' 0 4 = Int32.ofNat q ∧ ψ' 0 5 = Int32.ofNat (q + l) ∧ ψ' 0 6 = yk_cls k ∧ (k = 48 → ψ' 0 7 = Int32.ofNat (zk_v c q l)) ∧ (yk_cls k = 1 → ψ' 0 8 = Int32.ofNat (zk_w 32 c q l)) := by
  have h1 := htok.1
  have h2 := htok.2.1
  obtain ⟨ψ', e1, f, r⟩ := zm_L8 hF hn hcb htok F e (qm_u ψ 0 4 (ψ 0 5)) (by omega) (Nat.le_refl _) h1 ((zm_u 4 _ (by omega)).tx hT) h5
  exact ⟨ψ', e1, (zm_u 4 _ (by omega)).trans f, r⟩
theorem zm_spell (ψ : qm_F) : mo_spelled F ψ 115 107 101 116 99 104 = some (zk_sp 0) ∧ mo_spelled F ψ 105 110 0 0 0 0 = some (zk_sp 1) ∧ mo_spelled F ψ 104 111 108 101 0 0 = some (zk_sp 2) ∧ mo_spelled F ψ 114 97 110 107 0 0 = some (zk_sp 3) ∧ mo_spelled F ψ 118 97 114 0 0 0 = some (zk_sp 4) ∧ mo_spelled F ψ 109 117 115 116 0 0 = some (zk_sp 5) ∧ mo_spelled F ψ 105 102 0 0 0 0 = some (zk_sp 6) ∧ mo_spelled F ψ 101 108 115 101 0 0 = some (zk_sp 7) ∧ mo_spelled F ψ 108 111 111 112 0 0 = some (zk_sp 8) ∧ mo_spelled F ψ 119 104 105 108 101 0 = some (zk_sp 9) ∧ mo_spelled F ψ 109 111 115 116 0 0 = some (zk_sp 10) ∧ mo_spelled F ψ 108 101 116 0 0 0 = some (zk_sp 11) ∧ mo_spelled F ψ 115 112 101 99 0 0 = some (zk_sp 12) := by
  have : mo_spelled 0 (fun _ _ => 0) 115 107 101 116 99 104 = some (zk_sp 0) ∧ mo_spelled 0 (fun _ _ => 0) 105 110 0 0 0 0 = some (zk_sp 1) ∧ mo_spelled 0 (fun _ _ => 0) 104 111 108 101 0 0 = some (zk_sp 2) ∧ mo_spelled 0 (fun _ _ => 0) 114 97 110 107 0 0 = some (zk_sp 3) ∧ mo_spelled 0 (fun _ _ => 0) 118 97 114 0 0 0 = some (zk_sp 4) ∧ mo_spelled 0 (fun _ _ => 0) 109 117 115 116 0 0 = some (zk_sp 5) ∧ mo_spelled 0 (fun _ _ => 0) 105 102 0 0 0 0 = some (zk_sp 6) ∧ mo_spelled 0 (fun _ _ => 0) 101 108 115 101 0 0 = some (zk_sp 7) ∧ mo_spelled 0 (fun _ _ => 0) 108 111 111 112 0 0 = some (zk_sp 8) ∧ mo_spelled 0 (fun _ _ => 0) 119 104 105 108 101 0 = some (zk_sp 9) ∧ mo_spelled 0 (fun _ _ => 0) 109 111 115 116 0 0 = some (zk_sp 10) ∧ mo_spelled 0 (fun _ _ => 0) 108 101 116 0 0 0 = some (zk_sp 11) ∧ mo_spelled 0 (fun _ _ => 0) 115 112 101 99 0 0 = some (zk_sp 12) := by decide +kernel
  exact this
theorem zm_own1 (h6 : ψ 0 6 = 1) : mo_own F ψ = some (zk_fo (fun j => decide (ψ 0 8 = zk_sp j)) 0 13) := by
  obtain ⟨s0, s1, s2, s3, s4, s5, s6, s7, s8, s9, s10, s11, s12⟩ := zm_spell (F := F) ψ
  unfold mo_own
  rw [if_pos h6, s0, s1, s2, s3, s4, s5, s6, s7, s8, s9, s10, s11, s12]
  simp only [yb1]
  simp only [zk_fo, decide_eq_true_eq]
  have hh : ∀ (P : Prop) [Decidable P] (x y : Option Int32), (if ¬ P then x else y) = if P then y else x := by
    intro P _ x y
    by_cases h : P
    · simp [h]
    · simp [h]
  have hs : ∀ (P : Prop) [Decidable P] (x y : Int32), some (if P then x else y) = if P then some x else some y := by
    intro P _ x y
    by_cases h : P
    · simp [h]
    · simp [h]
  simp only [hh, hs]
  rfl
theorem zk_fo_first (f : Nat → Bool) : ∀ (k j m : Nat), j ≤ m → m < j + k → f m = true → (∀ i, j ≤ i → i < m → f i = false) → zk_fo f j k = Int32.ofNat m := by
  intro k
  induction k with
  | zero => intro j m h1 h2; omega
  | succ k ih =>
    intro j m h1 h2 h3 h4
    unfold zk_fo
    by_cases z : m = j
    · subst z; rw [if_pos h3]
    · rw [if_neg (by rw [h4 j (by omega) (by omega)]; decide)]
      exact ih (j + 1) m (by omega) (by omega) h3 (fun i x1 x2 => h4 i (by omega) x2)
theorem zk_fo_none (f : Nat → Bool) : ∀ (k j : Nat), (∀ i, j ≤ i → i < j + k → f i = false) → zk_fo f j k = -1 := by
  intro k
  induction k with
  | zero => intro j _; rfl
  | succ k ih =>
    intro j h
    unfold zk_fo
    rw [if_neg (by rw [h j (by omega) (by omega)]; decide)]
    exact ih (j + 1) (fun i x1 x2 => h i (by omega) (by omega))
theorem zm_own {e q l : Nat} {k : Int32} (hcb : ∀ j, j < n → c j < 256) (htok : zk_tok c n e q l k) (h6 : ψ 0 6 = yk_cls k) (h8 : yk_cls k = 1 → ψ 0 8 = Int32.ofNat (zk_w 32 c q l)) : mo_own F ψ = some (yk_own k) := by
  by_cases z : yk_cls k = 1
  · rw [zm_own1 (by rw [h6, z])]
    obtain ⟨t1, t2, t3, t4⟩ := htok
    rcases t4 with ⟨_, a, _⟩ | ⟨_, b1, b2, b3, b4, b5, b6⟩ | ⟨_, _, _, _, _, _, b6⟩ | ⟨b0, _, _, _, _, b5⟩
    · rw [a] at z; exact absurd z (by decide)
    · rcases b6 with ⟨x1, x2⟩ | ⟨x1, x2⟩
      · have key : ∀ i, i < 13 → (decide (ψ 0 8 = zk_sp i) = true ↔ zk_is c q l i) := by
          intro i hi
          rw [decide_eq_true_eq, h8 z, zk_is_w hi x1 b4]
          obtain ⟨k1, k2⟩ := zk_kwok i hi
          unfold zk_sp
          rw [ya_eq (by have := zk_w32 x1 b4; omega) (by have := zk_w32 (c := zk_kwc) (q := 6 * i) k1 (fun j hj => (k2 j (by omega)).1 hj); omega)]
        rcases x2 with ⟨j, y1, y2, y3, y4⟩ | ⟨y1, y2⟩
        · rw [zk_fo_first _ 13 0 j (by omega) (by omega) ((key j y1).mpr y2) (fun i _ hi => by
            cases hd : decide (ψ 0 8 = zk_sp i) with
            | false => rfl
            | true => exact absurd ((key i (by omega)).mp hd) (y3 i hi))]
          rw [(yk_own_eq (k := k) (w := j) y1).mpr y4]
        · rw [zk_fo_none _ 13 0 (fun i _ hi => by
            cases hd : decide (ψ 0 8 = zk_sp i) with
            | false => rfl
            | true => exact absurd ((key i (by omega)).mp hd) (y1 i (by omega))), y2]
          decide
      · rw [x2] at z; exact absurd z (by decide)
    · rcases b6 with ⟨x1, x2⟩ | ⟨x1, x2⟩ <;> (rw [x2] at z; exact absurd z (by decide))
    · rcases b5 with ⟨x1, x2⟩ | ⟨x1, x2⟩
      · have kc : ∀ x, x < 256 → (x = 59 ∨ x = 61 ∨ x = 38 ∨ x = 124 ∨ x = 94 ∨ x = 60 ∨ x = 43 ∨ x = 45 ∨ x = 42 ∨ x = 47 ∨ x = 37 ∨ x = 126 ∨ x = 40 ∨ x = 41 ∨ x = 123 ∨ x = 125) → 3 = yk_cls (Int32.ofNat x) := by decide +kernel
        rw [x2, ← kc _ (hcb q b0) x1] at z
        exact absurd z (by decide)
      · rw [x2] at z; exact absurd z (by decide)
  · have h1 : ¬ ψ 0 6 = 1 := by rw [h6]; exact z
    unfold mo_own
    rw [if_neg h1]
    unfold yk_own
    rw [if_neg]
    intro h
    apply z
    unfold yk_cls
    rw [if_pos h]
    rw [if_neg, if_neg, if_neg, ite_self]
    · intro e; rw [e] at h; exact absurd h (by decide)
    · intro e; rw [e] at h; exact absurd h (by decide)
    · intro e; rw [e] at h; exact absurd h (by decide)
def zk_T (c : Nat → Nat) (φ : qm_F) : qm_F := fun r s => if r = 0 then φ 6 s else if r = 1 then φ 7 s else if r = 2 then φ 7 s + φ 8 s else if r = 3 then φ 9 s else Int32.ofNat (zk_w 32 c (φ 7 s).toNatClampNeg (φ 8 s).toNatClampNeg)
/-- the tokens of a text, as both sides see them -/
theorem zk_main (hF : 4000 ≤ F) (hn : n ≤ 800) (hcb : ∀ j, j < n → c j < 256) {φ : qm_F} (h4 : φ 4 5 = 0) (h5 : ∀ j, j < n → φ 5 j = Int32.ofNat (c j)) :
    ∃ φ' cnt, to_read F nR n φ = some φ' ∧ φ' 4 5 = Int32.ofNat cnt ∧ (∀ a j, ¬ (a = 4 ∧ j = 5) → ¬ (a = 6 ∨ a = 7 ∨ a = 8 ∨ a = 9) → φ' a j = φ a j) ∧ yk_TK F n cnt (fun j => Int32.ofNat (c j)) (zk_T c φ') ∧
      (∀ s, s < cnt → ∃ e q l, zk_tok c n e q l (φ' 6 s) ∧ φ' 7 s = Int32.ofNat q ∧ φ' 8 s = Int32.ofNat l ∧ φ' 9 s = zk_nm c q l (φ' 6 s) ∧ q ≤ n ∧ l ≤ n) ∧
      (∀ ψ, yk_TX (fun j => Int32.ofNat (c j)) n ψ → ψ 0 5 = 0 → ∃ ψ', mo_steps F ψ = some ψ' ∧ yk_at (zk_T c φ') 0 ψ' ∧ zm_f ψ ψ') := by
  obtain ⟨φ', cnt, e1, c1, c2, c3, c4, c5⟩ := zx_read (nR := nR) hF hn hcb F 0 0 0 φ (by omega) (by omega) (by omega) (by omega) (fun j x1 x2 => by omega) h4 h5
  have at' : ∀ s q l k ψ', φ' 7 s = Int32.ofNat q → φ' 8 s = Int32.ofNat l → q ≤ n → l ≤ n → φ' 6 s = k → φ' 9 s = zk_nm c q l k → ψ' 0 4 = Int32.ofNat q → ψ' 0 5 = Int32.ofNat (q + l) → ψ' 0 6 = yk_cls k → (k = 48 → ψ' 0 7 = Int32.ofNat (zk_v c q l)) → (yk_cls k = 1 → ψ' 0 8 = Int32.ofNat (zk_w 32 c q l)) → yk_at (zk_T c φ') s ψ' := by
    intro s q l k ψ' x7 x8 xq xl x6 x9 y4 y5 y6 y7 y8
    refine ⟨?_, ?_, ?_, fun z => ?_, fun z => ?_⟩
    · show ψ' 0 4 = φ' 7 s
      rw [y4, x7]
    · show ψ' 0 5 = φ' 7 s + φ' 8 s
      rw [y5, x7, x8, ya_add]
    · show ψ' 0 6 = yk_cls (φ' 6 s)
      rw [y6, x6]
    · have z' : k = 48 := by rw [← x6]; exact z
      show ψ' 0 7 = φ' 9 s
      rw [y7 z', x9]
      unfold zk_nm
      rw [if_pos z']
    · have z' : yk_cls k = 1 := by rw [← x6]; exact z
      show ψ' 0 8 = Int32.ofNat (zk_w 32 c (φ' 7 s).toNatClampNeg (φ' 8 s).toNatClampNeg)
      rw [y8 z', x7, x8, ya_nn (by omega), ya_nn (by omega)]
  refine ⟨φ', cnt, e1, c3, fun a j x1 x2 => c4 a j x1 (by omega), ⟨by omega, c2, hn, fun t ht => ?_, fun ψ t hT ht h3 => ?_, fun ψ t ht ha => ?_, fun ψ t hT ht h5 => ?_, fun t s ht hs h9 h9' => ?_, fun t ht h9 => ?_, fun t ht h9 => ?_, fun t ht => ?_⟩, fun s hs => ?_, fun ψ hT h5 => ?_⟩
  · obtain ⟨q, l, d1, d2, d3, d4, d5, d6, d7⟩ := c5 t (by omega) ht
    exact d7
  · obtain ⟨q, l, d1, d2, d3, d4, d5, d6, d7⟩ := c5 t (by omega) ht
    show mo_see F ψ (φ' 7 t) = some (φ' 6 t)
    have h3' : yk_cls (φ' 6 t) = 3 := h3
    rw [d1, zm_see hT hn (by omega)]
    obtain ⟨t1, t2, t3, t4⟩ := d5
    rcases t4 with ⟨_, a, _⟩ | ⟨_, b1, b2, b3, b4, b5, b6⟩ | ⟨_, _, _, _, _, _, b6⟩ | ⟨b0, _, _, _, _, b5⟩
    · rw [a] at h3'; exact absurd h3' (by decide)
    · rcases b6 with ⟨x1, x2⟩ | ⟨x1, x2⟩
      · rcases x2 with ⟨j, y1, y2, y3, y4⟩ | ⟨y1, y2⟩
        · have hk : ∀ j, j < 13 → 1 = yk_cls (Int32.ofNat (128 + j)) := by decide +kernel
          rw [y4, ← hk j y1] at h3'; exact absurd h3' (by decide)
        · rw [y2] at h3'; exact absurd h3' (by decide)
      · rw [x2] at h3'; exact absurd h3' (by decide)
    · rcases b6 with ⟨x1, x2⟩ | ⟨x1, x2⟩ <;> (rw [x2] at h3'; exact absurd h3' (by decide))
    · rcases b5 with ⟨x1, x2⟩ | ⟨x1, x2⟩
      · rw [if_pos b0, x2]
      · rw [x2] at h3'; exact absurd h3' (by decide)
  · obtain ⟨q, l, d1, d2, d3, d4, d5, d6, d7⟩ := c5 t (by omega) ht
    refine zm_own hcb d5 ha.2.2.1 (fun z => ?_)
    have := ha.2.2.2.2 z
    rw [this]
    show Int32.ofNat (zk_w 32 c (φ' 7 t).toNatClampNeg (φ' 8 t).toNatClampNeg) = _
    rw [d1, d2, ya_nn (by omega), ya_nn (by omega)]
  · obtain ⟨q, l, d1, d2, d3, d4, d5, d6, d7⟩ := c5 t (by omega) (by omega)
    obtain ⟨q', l', d1', d2', d3', d4', d5', d6', d7'⟩ := c5 (t + 1) (by omega) ht
    have he : zk_pe φ' 0 0 (t + 1) = q + l := by
      unfold zk_pe zk_en
      rw [if_neg (by omega), show t + 1 - 1 = t by omega, d1, d2, ya_nn (by omega), ya_nn (by omega)]
    rw [he] at d5'
    have h5' : ψ 0 5 = Int32.ofNat (q + l) := by
      rw [h5]
      show φ' 7 t + φ' 8 t = _
      rw [d1, d2, ya_add]
    obtain ⟨ψ', e2, f2, r4, r5, r6, r7, r8⟩ := zm_step hF hn hcb d5' hT h5'
    exact ⟨ψ', e2, at' (t + 1) q' l' _ ψ' d1' d2' d3' d4' rfl d6' r4 r5 r6 r7 r8, f2⟩
  · obtain ⟨q, l, d1, d2, d3, d4, d5, d6, d7⟩ := c5 t (by omega) ht
    obtain ⟨q', l', d1', d2', d3', d4', d5', d6', d7'⟩ := c5 s (by omega) hs
    have lt : ∀ s q l, zk_tok c n (zk_pe φ' 0 0 s) q l (φ' 6 s) → φ' 6 s = 97 → l ≤ 6 ∧ ∀ j, j < l → zk_lt (c (q + j)) := by
      intro s q l htok h9
      obtain ⟨t1, t2, t3, t4⟩ := htok
      rcases t4 with ⟨_, a, _⟩ | ⟨_, b1, b2, b3, b4, b5, b6⟩ | ⟨_, _, _, _, _, _, b6⟩ | ⟨b0, _, _, _, _, b5⟩
      · rw [a] at h9; exact absurd h9 (by decide)
      · rcases b6 with ⟨x1, x2⟩ | ⟨x1, x2⟩
        · exact ⟨x1, b4⟩
        · rw [x2] at h9; exact absurd h9 (by decide)
      · rcases b6 with ⟨x1, x2⟩ | ⟨x1, x2⟩ <;> (rw [x2] at h9; exact absurd h9 (by decide))
      · rcases b5 with ⟨x1, x2⟩ | ⟨x1, x2⟩
        · rw [x2, show (97 : Int32) = Int32.ofNat 97 from rfl, ya_eq (by have := hcb q b0; omega) (by omega)] at h9
          unfold zk_sg at x1
          omega
        · rw [x2] at h9; exact absurd h9 (by decide)
    have k9 : φ' 6 t = 97 := h9
    have k9' : φ' 6 s = 97 := h9'
    obtain ⟨a1, a2⟩ := lt t q l d5 k9
    obtain ⟨b1, b2⟩ := lt s q' l' d5' k9'
    have w1 := zk_w27 a1 a2
    have w2 := zk_w27 b1 b2
    have w3 := zk_w32 a1 a2
    have w4 := zk_w32 b1 b2
    show (φ' 9 t = φ' 9 s ↔ Int32.ofNat (zk_w 32 c (φ' 7 t).toNatClampNeg (φ' 8 t).toNatClampNeg) = Int32.ofNat (zk_w 32 c (φ' 7 s).toNatClampNeg (φ' 8 s).toNatClampNeg))
    rw [d1, d2, d1', d2', ya_nn (by omega), ya_nn (by omega), ya_nn (by omega), ya_nn (by omega), d6, d6', k9, k9', show zk_nm c q l 97 = Int32.ofNat (zk_w 27 c q l) from rfl, show zk_nm c q' l' 97 = Int32.ofNat (zk_w 27 c q' l') from rfl, ya_eq (by omega) (by omega), ya_eq (by omega) (by omega)]
    constructor
    · intro h
      obtain ⟨i1, i2⟩ := zk_inj (B := 27) (by omega) l l' a2 b2 h
      subst i1
      exact zk_wcg 32 l i2
    · intro h
      obtain ⟨i1, i2⟩ := zk_inj (B := 32) (by omega) l l' a2 b2 h
      subst i1
      exact zk_wcg 27 l i2
  · obtain ⟨q, l, d1, d2, d3, d4, d5, d6, d7⟩ := c5 t (by omega) ht
    have k9 : φ' 6 t = 97 := h9
    show Int32.ofNat (zk_w 32 c (φ' 7 t).toNatClampNeg (φ' 8 t).toNatClampNeg) ≠ 0
    rw [d1, d2, ya_nn (by omega), ya_nn (by omega)]
    obtain ⟨t1, t2, t3, t4⟩ := d5
    rcases t4 with ⟨_, a, _⟩ | ⟨_, b1, b2, b3, b4, b5, b6⟩ | ⟨_, _, _, _, _, _, b6⟩ | ⟨b0, _, _, _, _, b5⟩
    · rw [a] at k9; exact absurd k9 (by decide)
    · rcases b6 with ⟨x1, x2⟩ | ⟨x1, x2⟩
      · intro z
        rw [show (0 : Int32) = Int32.ofNat 0 from rfl, ya_eq (by have := zk_w32 x1 b4; omega) (by omega)] at z
        obtain ⟨l0, rfl⟩ : ∃ l0, l = l0 + 1 := ⟨l - 1, by omega⟩
        have := b4 l0 (by omega)
        unfold zk_lt at this
        simp only [zk_w] at z
        omega
      · rw [x2] at k9; exact absurd k9 (by decide)
    · rcases b6 with ⟨x1, x2⟩ | ⟨x1, x2⟩ <;> (rw [x2] at k9; exact absurd k9 (by decide))
    · rcases b5 with ⟨x1, x2⟩ | ⟨x1, x2⟩
      · rw [x2, show (97 : Int32) = Int32.ofNat 97 from rfl, ya_eq (by have := hcb q b0; omega) (by omega)] at k9
        unfold zk_sg at x1
        omega
      · rw [x2] at k9; exact absurd k9 (by decide)
  · obtain ⟨q, l, d1, d2, d3, d4, d5, d6, d7⟩ := c5 t (by omega) ht
    have k9 : φ' 6 t = 48 := h9
    obtain ⟨t1, t2, t3, t4⟩ := d5
    refine ⟨zk_v c q l, ?_, ?_⟩
    · rcases t4 with ⟨_, a, _⟩ | ⟨_, b1, b2, b3, b4, b5, b6⟩ | ⟨_, _, _, _, b4, _, b6⟩ | ⟨b0, _, _, _, _, b5⟩
      · rw [a] at k9; exact absurd k9 (by decide)
      · rcases b6 with ⟨x1, x2⟩ | ⟨x1, x2⟩
        · rcases x2 with ⟨j, y1, y2, y3, y4⟩ | ⟨y1, y2⟩
          · rw [y4, show (48 : Int32) = Int32.ofNat 48 from rfl, ya_eq (by omega) (by omega)] at k9; omega
          · rw [y2] at k9; exact absurd k9 (by decide)
        · rw [x2] at k9; exact absurd k9 (by decide)
      · rcases b6 with ⟨x1, x2⟩ | ⟨x1, x2⟩
        · exact zk_v5 x1 b4
        · rw [x2] at k9; exact absurd k9 (by decide)
      · rcases b5 with ⟨x1, x2⟩ | ⟨x1, x2⟩
        · rw [x2, show (48 : Int32) = Int32.ofNat 48 from rfl, ya_eq (by have := hcb q b0; omega) (by omega)] at k9
          unfold zk_sg at x1
          omega
        · rw [x2] at k9; exact absurd k9 (by decide)
    · show φ' 9 t = _
      rw [d6, k9]
      rfl
  · obtain ⟨q, l, d1, d2, d3, d4, d5, d6, d7⟩ := c5 t (by omega) ht
    exact ⟨q, d3, d1⟩
  · obtain ⟨q, l, d1, d2, d3, d4, d5, d6, d7⟩ := c5 s (by omega) hs
    exact ⟨_, q, l, d5, d1, d2, d6, d3, d4⟩
  · obtain ⟨q, l, d1, d2, d3, d4, d5, d6, d7⟩ := c5 0 (by omega) (by omega)
    have he : zk_pe φ' 0 0 0 = 0 := rfl
    rw [he] at d5
    obtain ⟨ψ', e2, f2, r4, r5, r6, r7, r8⟩ := zm_step hF hn hcb d5 hT h5
    exact ⟨ψ', e2, at' 0 q l _ ψ' d1 d2 d3 d4 rfl d6 r4 r5 r6 r7 r8, f2⟩
end Z3
