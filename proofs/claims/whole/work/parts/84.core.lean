/-! SEMANTICS: core -/
section S11
variable {F nR nN nT gg nI u nK o s tn : Nat} {φ0 ψ0 φ ψ : qm_F} {Vf : Nat → Nat → Nat → Nat} {Hb : List Nat} {pn : Nat → Int32} {kp rk : Nat → Nat} {cur : Int32}
theorem sc_m : ∀ k, k < 40 → ∀ j, j < 40 → (bu (((1 : Int64) <<< (Int32.toInt64 (Int32.ofNat k) &&& 63)) ^^^ (-1))).testBit j = decide (j ≠ k) := by decide +kernel
theorem sc_i : ∀ k, k < 41 → bu (((1 : Int64) <<< (Int32.toInt64 (Int32.ofNat k) &&& 63)) - 1) < 1099511627776 ∧ ∀ j, j < 40 → (bu (((1 : Int64) <<< (Int32.toInt64 (Int32.ofNat k) &&& 63)) - 1)).testBit j = decide (j < k) := by decide +kernel
theorem ss_left_c {V : Nat → Nat → Nat} {b b' : Nat → Bool} (h : ∀ j, j < nK → b j = b' j) (g : Nat) : ss_left V pn Hb kp nK b g = ss_left V pn Hb kp nK b' g := by
  unfold ss_left
  rw [sp_find_c nK 0 (fun k _ hk => by rw [h k (by omega)])]
theorem ss_cnt_c {V : Nat → Nat → Nat} {b b' : Nat → Bool} (h : ∀ j, j < nK → b j = b' j) : sp_cnt (ss_of V nI pn Hb kp nK b 0) 0 gg = sp_cnt (ss_of V nI pn Hb kp nK b' 0) 0 gg :=
  sp_cnt_c gg 0 0 (fun j _ => by unfold ss_of; rw [if_pos rfl, if_pos rfl, ss_left_c h])
/-- all but the marks of kept ones -/
def sm_m (ψ ψ' : qm_F) : Prop := ∀ a j, ¬ (a = 0 ∧ (j = 0 ∨ 36 ≤ j ∧ j ≤ 38 ∨ j = 40)) → ¬ (a = 17 ∨ a = 18 ∨ a = 19) → ¬ (a = 21 ∧ j < 40) → ψ' a j = ψ a j
theorem sm_m.trans {ψ ψ' ψ'' : qm_F} (h : sm_m ψ ψ') (h' : sm_m ψ' ψ'') : sm_m ψ ψ'' := fun a j x y z => (h' a j x y z).trans (h a j x y z)
theorem sm_h.m {ψ ψ' : qm_F} (h : sm_h ψ ψ') : sm_m ψ ψ' := fun a j x y _ => h a j x y
theorem sm_u21 {k : Nat} (hk : k < 40) (v : Int32) (ψ : qm_F) : sm_m ψ (qm_u ψ 21 k v) := fun a j x y z => by (unfold qm_u; repeat' split) <;> first | rfl | omega
theorem sm_I.u21 {V : Nat → Nat → Nat} (h : sm_I gg nI ψ0 V u ψ) (k : Nat) (v : Int32) : sm_I gg nI ψ0 V u (qm_u ψ 21 k v) := by
  have u1 : ∀ a j, a ≠ 21 → (qm_u ψ 21 k v) a j = ψ a j := fun a j x => ya_u_a _ _ _ _ x
  refine ⟨fun a j x => by rw [u1 a j (by omega)]; exact h.1 a j x, by rw [u1 _ _ (by omega)]; exact h.2.1, ?_⟩
  rw [u1 0 40 (by omega)]
  rcases h.2.2 with z | ⟨z, z'⟩
  · exact Or.inl z
  · exact Or.inr ⟨z, fun g i x y => by rw [u1 19 _ (by omega)]; exact z' g i x y⟩
theorem sm_K.u21 {b : Nat → Bool} (h : sm_K nI pn kp nK b ψ) (k : Nat) (v : Bool) : sm_K nI pn kp nK (fun j => if j = k then v else b j) (qm_u ψ 21 k (if v = true then 0 else 1)) := by
  have u1 : ∀ a j, a ≠ 21 → (qm_u ψ 21 k (if v = true then 0 else 1)) a j = ψ a j := fun a j x => ya_u_a _ _ _ _ x
  refine ⟨fun j hj => by rw [u1 _ _ (by omega)]; exact h.1 j hj, by rw [u1 _ _ (by omega)]; exact h.2.1, fun j hj => by rw [u1 _ _ (by omega)]; exact h.2.2.1 j hj, h.2.2.2.1, fun j hj => ?_⟩
  by_cases w : j = k
  · subst w; rw [ya_u_same]; simp
  · rw [ya_u_i _ _ _ _ w, h.2.2.2.2 j hj]; simp [w]
theorem sc_loop {V : Nat → Nat → Nat} (H : ss_H F nR nN nT gg nI φ0 ψ0 V u) (hP : ss_P Hb φ0 ψ0) (hKx : sx_K nI pn kp nK φ) (C x1 : Int32) : ∀ (n m : Nat) (φ1 ψ1 : qm_F) (b : Nat → Bool) (x : Int64), n ≤ nK → n + 1 ≤ m → sx_I gg nI φ0 V u φ1 → sx_f φ φ1 → sm_I gg nI ψ0 V u ψ1 → sm_K nI pn kp nK b ψ1 → sm_m ψ ψ1 → bu x < 1099511627776 → (∀ j, j < 40 → (bu x).testBit j = (b j && decide (j < nK))) →
    (∀ j, j < n → b j = true) →
    ∃ b' x' φ' ψ', se_coreOfKept_L25 F nR nN nT gg m φ1 C x (Int32.ofNat n - 1) = some (x', φ') ∧ mo_core_L32 F m ψ1 x1 C (Int32.ofNat n - 1) = mo_core_L73 F F ψ' x1 0 (-1) 0 ∧ sx_I gg nI φ0 V u φ' ∧ sx_f φ φ' ∧ sm_I gg nI ψ0 V u ψ' ∧ sm_K nI pn kp nK b' ψ' ∧ sm_m ψ ψ' ∧ bu x' < 1099511627776 ∧ (∀ j, j < 40 → (bu x').testBit j = (b' j && decide (j < nK))) := by
  have n40 := hKx.2.2.2
  intro n
  induction n with
  | zero =>
    intro m φ1 ψ1 b x h1 h2 h3 h4 h5 h6 h7 h8 h9 h10
    obtain ⟨m, rfl⟩ : ∃ z, m = z + 1 := ⟨m - 1, by omega⟩
    refine ⟨b, x, φ1, ψ1, ?_, ?_, h3, h4, h5, h6, h7, h8, h9⟩
    · unfold se_coreOfKept_L25; rw [if_pos (by decide)]
    · unfold mo_core_L32; rw [if_pos (by decide)]
  | succ n ih =>
    intro m φ1 ψ1 b x h1 h2 h3 h4 h5 h6 h7 h8 h9 h10
    obtain ⟨m, rfl⟩ : ∃ z, m = z + 1 := ⟨m - 1, by omega⟩
    have e1 : Int32.ofNat (n + 1) - 1 = Int32.ofNat n := ya_sub1 (by omega)
    have e2 : Int32.ofNat n + (-1) = Int32.ofNat n - 1 := (Int32.sub_eq_add_neg _ _).symm
    obtain ⟨xw, hxw⟩ : ∃ xw, xw = (x &&& (((1 : Int64) <<< (Int32.toInt64 (Int32.ofNat n) &&& 63)) ^^^ (-1))) := ⟨_, rfl⟩
    have w8 : bu xw < 1099511627776 := by rw [hxw, bu_and]; exact Nat.lt_of_le_of_lt Nat.and_le_left h8
    have w9 : ∀ j, j < 40 → (bu xw).testBit j = ((if j = n then false else b j) && decide (j < nK)) := by
      intro j hj
      rw [hxw, bu_and, Nat.testBit_and, h9 j hj, sc_m n (by omega) j hj]
      by_cases w : j = n
      · simp [w]
      · simp [w]
    obtain ⟨φ2, r1, r2, r3⟩ := sx_leftWith (b := fun j => (if j = n then false else b j) && decide (j < nK)) H hP h3 (hKx.fr h4) (x := xw) (fun j hj => by rw [bt_get _ hj]; exact w9 j hj)
    have k1 := h6.u21 n false
    obtain ⟨ψ2, s1, s2, s3⟩ := sm_count (w := 0) H hP (h5.u21 n 1) k1 (by omega)
    rw [ss_cnt_c (b' := fun j => if j = n then false else b j) (fun j hj => by simp [hj])] at r1
    generalize sp_cnt (ss_of V nI pn Hb kp nK (fun j => if j = n then false else b j) 0) 0 gg = N at *
    rw [e1]
    have s1' : mo_manyOf F (qm_u ψ1 21 n 1) 0 = _ := s1
    have m1 : sm_m ψ ψ2 := (h7.trans (sm_u21 (by omega) 1 ψ1)).trans s3.h.m
    by_cases q : Int32.ofNat N = C
    · obtain ⟨b', x', φ', ψ', t1, t2, t3⟩ := ih m φ2 ψ2 _ xw (by omega) (by omega) r2 (h4.trans r3) s2 (k1.fr s3) m1 w8 w9 (fun j hj => by rw [if_neg (by omega)]; exact h10 j (by omega))
      refine ⟨b', x', φ', ψ', ?_, ?_, t3⟩
      · unfold se_coreOfKept_L25
        rw [if_neg (ya_lt0 (by omega)), ← hxw, r1, e2]
        simp only [yb2]
        rw [if_neg (by rw [q]; exact not_not_intro rfl)]
        exact t1
      · unfold mo_core_L32
        rw [if_neg (ya_lt0 (by omega)), ya_in (by omega) (by omega), ya_nn (by omega), s1', e2]
        simp only [yb2, yg1]
        rw [if_pos q]
        exact t2
    · have k2 := (k1.fr s3).u21 n true
      obtain ⟨b', x', φ', ψ', t1, t2, t3⟩ := ih m φ2 (qm_u ψ2 21 n 0) _ x (by omega) (by omega) r2 (h4.trans r3) (s2.u21 n 0) k2 (m1.trans (sm_u21 (by omega) 0 ψ2)) h8 (fun j hj => by
          rw [h9 j hj]
          by_cases w : j = n
          · rw [if_pos w, w, h10 n (by omega)]
          · rw [if_neg w, if_neg w]) (fun j hj => by rw [if_neg (by omega), if_neg (by omega)]; exact h10 j (by omega))
      refine ⟨b', x', φ', ψ', ?_, ?_, t3⟩
      · unfold se_coreOfKept_L25
        rw [if_neg (ya_lt0 (by omega)), ← hxw, r1, e2]
        simp only [yb2]
        rw [if_pos q]
        exact t1
      · unfold mo_core_L32
        rw [if_neg (ya_lt0 (by omega)), ya_in (by omega) (by omega), ya_nn (by omega), s1', e2]
        simp only [yb2, yg1]
        rw [if_neg q]
        exact t2
def sc_sel (P : Nat → Bool) (kp : Nat → Nat) : Nat → Nat → Nat → Int32
  | _, _, 0 => -1
  | w, i, n + 1 => if P i = true then (if w = 0 then Int32.ofNat (kp i) else sc_sel P kp (w - 1) (i + 1) n) else sc_sel P kp w (i + 1) n
theorem sc_kept (hKx : sx_K nI pn kp nK φ) (hF : 200000 ≤ F) {x : Int64} {b : Nat → Bool} (hx : ∀ j, j < 40 → (bu x).testBit j = (b j && decide (j < nK))) : ∀ (n m i w : Nat), n + i = nK → n + 1 ≤ m → w < 2147483648 → se_keptOf_L6 F nR nN nT gg m φ x (Int32.ofNat w) (Int32.ofNat i) = some (sc_sel b kp w i n) := by
  have n40 := hKx.2.2.2
  intro n
  induction n with
  | zero =>
    intro m i w h1 h2 hw
    obtain ⟨m, rfl⟩ : ∃ z, m = z + 1 := ⟨m - 1, by omega⟩
    unfold se_keptOf_L6
    rw [hKx.2.1, if_pos (by rw [ya_le (by omega) (by omega)]; omega)]
    rfl
  | succ n ih =>
    intro m i w h1 h2 hw
    obtain ⟨m, rfl⟩ : ∃ z, m = z + 1 := ⟨m - 1, by omega⟩
    unfold se_keptOf_L6 sc_sel
    rw [hKx.2.1, if_neg (by rw [ya_le (by omega) (by omega)]; omega), if_neg (by rw [show (40 : Int32) = Int32.ofNat 40 from rfl, ya_le (by omega) (by omega)]; omega)]
    have hb : (¬ (lg_cmp (((Int64.toUInt64 x >>> ((Int32.toInt64 (Int32.ofNat i)).toUInt64 &&& Int64.toUInt64 63)).toInt64) &&& 1) 0) = 0) ↔ b i = true := by
      have := bt_get x (j := i) (by omega)
      rw [hx i (by omega), decide_eq_true (show i < nK by omega), Bool.and_true] at this
      rw [← this]
      unfold ss_bt
      simp
    by_cases q : b i = true
    · rw [if_pos (hb.mpr q), if_pos q]
      by_cases z : w = 0
      · rw [if_pos z, z, if_neg (c := ¬ Int32.ofNat 0 = 0) (by decide), ya_in (by omega) (by omega), ya_nn (by omega), (hKx.2.2.1 i (by omega)).1]
        rfl
      · rw [if_neg z, if_pos (by rw [show (0 : Int32) = Int32.ofNat 0 from rfl, ya_eq hw (by omega)]; exact z), ya_add1, show Int32.ofNat w + (-1) = Int32.ofNat (w - 1) from by rw [← ya_sub1 (by omega)]; exact (Int32.sub_eq_add_neg _ _).symm]
        exact ih m (i + 1) (w - 1) (by omega) (by omega) (by omega)
    · rw [if_neg (fun z => q (hb.mp z)), if_neg q, ya_add1]
      exact ih m (i + 1) w (by omega) (by omega) hw
/-- the reference's last walks -/
theorem sc_reset (hF : 200000 ≤ F) (x1 x3 x4 : Int32) (ψ : qm_F) : ∃ ψ', mo_core_L126 F F ψ x1 x3 x4 0 = some (if x1 = -1 then x3 else x4, ψ') ∧ (∀ a j, ¬ (a = 21 ∧ j < 40) → ψ' a j = ψ a j) ∧ (∀ j, j < 40 → ψ' 21 j = 0) := by
  have : ∀ (n m i : Nat) (ψ1 : qm_F), n + i = 40 → n + 1 ≤ m → (∀ a j, ¬ (a = 21 ∧ j < 40) → ψ1 a j = ψ a j) → (∀ j, j < i → ψ1 21 j = 0) → ∃ ψ', mo_core_L126 F m ψ1 x1 x3 x4 (Int32.ofNat i) = some (if x1 = -1 then x3 else x4, ψ') ∧ (∀ a j, ¬ (a = 21 ∧ j < 40) → ψ' a j = ψ a j) ∧ (∀ j, j < 40 → ψ' 21 j = 0) := by
    intro n
    induction n with
    | zero =>
      intro m i ψ1 h1 h2 h3 h4
      obtain ⟨m, rfl⟩ : ∃ z, m = z + 1 := ⟨m - 1, by omega⟩
      obtain rfl : i = 40 := by omega
      refine ⟨ψ1, ?_, h3, h4⟩
      unfold mo_core_L126
      rw [if_pos (by decide)]
      by_cases q : x1 = -1
      · rw [if_neg (not_not_intro q), if_pos q]
      · rw [if_pos q, if_neg q]
    | succ n ih =>
      intro m i ψ1 h1 h2 h3 h4
      obtain ⟨m, rfl⟩ : ∃ z, m = z + 1 := ⟨m - 1, by omega⟩
      unfold mo_core_L126
      rw [if_neg (by rw [show (40 : Int32) = Int32.ofNat 40 from rfl, ya_le (by omega) (by omega)]; omega), ya_in (by omega) (by omega), ya_nn (by omega), ya_add1]
      refine ih m (i + 1) _ (by omega) (by omega) (fun a j x => ?_) (fun j hj => ?_)
      · rw [← h3 a j x]
        (unfold qm_u; repeat' split) <;> first | rfl | omega
      · by_cases w : j = i
        · rw [w, ya_u_same]
        · rw [ya_u_i _ _ _ _ w]; exact h4 j (by omega)
  exact this 40 F 0 ψ (by omega) (by omega) (fun _ _ _ => rfl) (fun j hj => by omega)
theorem sc_walk {b : Nat → Bool} (hK : sm_K nI pn kp nK b ψ) (x1 : Int32) (hx : x1 = -1 ∨ ∃ w, w < 2147483648 ∧ x1 = Int32.ofNat w) : ∀ (n m i c : Nat) (x4 : Int32), n + i = nK → n + 1 ≤ m → c ≤ i → (∀ w, x1 = Int32.ofNat w → w < 2147483648 → c ≤ w → x4 = -1) → ∃ y3 y4, mo_core_L73 F m ψ x1 (Int32.ofNat c) x4 (Int32.ofNat i) = mo_core_L126 F F ψ x1 y3 y4 0 ∧ (x1 = -1 → y3 = Int32.ofNat (c + sp_cnt b i n)) ∧ (∀ w, x1 = Int32.ofNat w → w < 2147483648 → y4 = if c ≤ w then sc_sel b kp (w - c) i n else x4) := by
  have n40 := hK.2.2.2.1
  intro n
  induction n with
  | zero =>
    intro m i c x4 h1 h2 hc h3
    obtain ⟨m, rfl⟩ : ∃ z, m = z + 1 := ⟨m - 1, by omega⟩
    refine ⟨Int32.ofNat c, x4, ?_, fun _ => rfl, fun w e hw => ?_⟩
    · unfold mo_core_L73
      rw [hK.2.1, if_pos (by rw [ya_le (by omega) (by omega)]; omega)]
    · split
      · exact h3 w e hw ‹_›
      · rfl
  | succ n ih =>
    intro m i c x4 h1 h2 hc h3
    obtain ⟨m, rfl⟩ : ∃ z, m = z + 1 := ⟨m - 1, by omega⟩
    unfold mo_core_L73
    rw [hK.2.1, if_neg (by rw [ya_le (by omega) (by omega)]; omega), ya_in (by omega) (by omega), ya_nn (by omega), hK.2.2.2.2 i (by omega), ya_add1, ya_add1, (hK.2.2.1 i (by omega)).1]
    simp only [yg1]
    unfold sp_cnt sc_sel
    by_cases q : b i = true
    · simp only [if_pos q]
      rw [if_pos trivial]
      by_cases z : Int32.ofNat c = x1
      · rw [if_neg (not_not_intro z)]
        obtain ⟨y3, y4, t1, t2, t3⟩ := ih m (i + 1) (c + 1) (Int32.ofNat (kp i)) (by omega) (by omega) (by omega) (fun w e hw hcw => by
          have := (ya_eq (a := c) (b := w) (by omega) hw).mp (z.trans e); omega)
        refine ⟨y3, y4, t1, fun e => by rw [t2 e]; congr 1; omega, fun w e hw => ?_⟩
        have hcw := (ya_eq (a := c) (b := w) (by omega) hw).mp (z.trans e)
        rw [t3 w e hw, if_neg (by omega), if_pos (by omega), if_pos (by omega)]
      · rw [if_pos z]
        obtain ⟨y3, y4, t1, t2, t3⟩ := ih m (i + 1) (c + 1) x4 (by omega) (by omega) (by omega) (fun w e hw hcw => h3 w e hw (by omega))
        refine ⟨y3, y4, t1, fun e => by rw [t2 e]; congr 1; omega, fun w e hw => ?_⟩
        have hcw : c ≠ w := fun y => z (by rw [e, y])
        rw [t3 w e hw]
        by_cases v : c ≤ w
        · rw [if_pos (by omega), if_pos v, if_neg (by omega), show w - (c + 1) = w - c - 1 by omega]
        · rw [if_neg (by omega), if_neg v]
    · simp only [if_neg q]
      rw [if_neg (by decide)]
      obtain ⟨y3, y4, t1, t2, t3⟩ := ih m (i + 1) c x4 (by omega) (by omega) (by omega) h3
      exact ⟨y3, y4, t1, fun e => by rw [t2 e]; congr 1; omega, t3⟩
theorem so_core (h : sb_D F nR nN nT gg nI φ0 ψ0 Vf Hb rk u nK o s tn pn kp cur φ ψ) (x1 : Int32) : sb_ask F nR nN nT gg nI φ0 ψ0 Vf Hb rk u nK o s tn pn kp cur (sf_core F nR nN nT gg φ x1) (mo_core F ψ x1) := by
  have H := h.1 u h.2.2.2.1
  have hF := ss_F H
  have hP := h.2.1
  have hx := h.2.2.2.2.1
  have hm := h.2.2.2.2.2.1.t 0
  have hKx := h.2.2.2.2.2.2.1
  have hKm := h.2.2.2.2.2.2.2.1.t 0
  have h12 : ψ 0 12 = 1 := h.2.2.2.2.2.2.2.2.2.2.2.2.1
  have n40 : nK ≤ 40 := hKx.2.2.2
  unfold sf_core mo_core
  rw [h12, if_neg (c := (1 : Int32) = 0) (by decide)]
  by_cases c0 : (-1) ≤ x1
  · rw [if_pos c0, if_pos c0]
    obtain ⟨φ1, r1, r2, r3⟩ := sx_leftWith (b := fun _ => true) H hP hx hKx ss_btall
    obtain ⟨ψ1, s1, s2, s3⟩ := sm_count (w := 0) H hP hm hKm (by omega)
    have s1' : mo_manyOf F (qm_u ψ 0 0 0) 0 = _ := s1
    have hK1 := hKx.fr r3
    obtain ⟨i1, i2⟩ := sc_i nK (by omega)
    have m1 : sm_m ψ ψ1 := ((sm_h0 ψ 0).trans s3.h).m
    obtain ⟨b', x', φ', ψ', t1, t2, t3, t4, t5, t6, t7, t8, t9⟩ := sc_loop (φ := φ) (ψ := ψ) H hP hKx (Int32.ofNat (sp_cnt (ss_of (Vf u) nI pn Hb kp nK (fun _ => true) 0) 0 gg)) x1 nK F φ1 ψ1 (fun _ => true) _ (Nat.le_refl _) (by omega) r2 r3 s2 (hKm.fr s3) m1 i1 (fun j hj => by rw [i2 j hj, Bool.true_and]) (fun _ _ => rfl)
    have e1 : se_coreOfKept F nR nN nT gg φ = some (x', φ') := by
      unfold se_coreOfKept
      rw [r1]
      simp only [yb2]
      rw [hK1.2.1]
      exact t1
    have hcase : x1 = -1 ∨ ∃ w, w < 2147483648 ∧ x1 = Int32.ofNat w := by
      by_cases z : x1 < 0
      · left
        have z1 := Int32.lt_iff_toInt_lt.mp z
        have z2 := Int32.le_iff_toInt_le.mp c0
        apply Int32.toInt_inj.mp
        rw [show (-1 : Int32).toInt = -1 from rfl] at *
        rw [show (0 : Int32).toInt = 0 from rfl] at *
        omega
      · exact Or.inr (ya_nat z)
    obtain ⟨y3, y4, w1, w2, w3⟩ := sc_walk (F := F) t6 x1 hcase nK F 0 0 (-1) (by omega) (by omega) (by omega) (fun _ _ _ _ => rfl)
    obtain ⟨ψ3, v1, v2, v3⟩ := sc_reset hF.1 x1 y3 y4 ψ'
    have eR : mo_core_L32 F F ψ1 x1 (Int32.ofNat (sp_cnt (ss_of (Vf u) nI pn Hb kp nK (fun _ => true) 0) 0 gg)) (ψ1 0 45 - 1) = some (if x1 = -1 then y3 else y4, ψ3) := by
      rw [(hKm.fr s3).2.1, t2]
      exact w1.trans v1
    have fin : sb_D F nR nN nT gg nI φ0 ψ0 Vf Hb rk u nK o s tn pn kp cur φ' ψ3 := by
      refine h.q t3 t4.g ⟨fun a j x => by rw [v2 a j (by omega)]; exact t5.1 a j x, by rw [v2 _ _ (by omega)]; exact t5.2.1, ?_⟩ (fun a j x y => ?_)
      · rw [v2 0 40 (by omega)]
        rcases t5.2.2 with z | ⟨z, z'⟩
        · exact Or.inl z
        · exact Or.inr ⟨z, fun g i x y => by rw [v2 19 _ (by omega)]; exact z' g i x y⟩
      · by_cases w : a = 21 ∧ j < 40
        · obtain ⟨rfl, hj⟩ := w
          rw [v3 j hj]
          have := hKm.2.2.2.2 j hj
          rw [if_pos rfl] at this
          rw [← this]
          simp [qm_u]
        · rw [v2 a j w]
          exact t7 a j x y w
    rw [e1, s1']
    simp only [yb2]
    rw [eR]
    rcases hcase with q | ⟨w, hw, q⟩
    · have e2 : ja_bitCount F nR φ' x' = some y3 := by
        rw [bj_pop F nR φ' t8, w2 q, show (40 : Nat) = nK + (40 - nK) by omega, sp_cnt_add, sp_cnt_c (Q := b') nK 0 0 (fun j hj => by
          show Nat.testBit _ _ = _
          rw [t9 _ (by omega), decide_eq_true (by omega), Bool.and_true]), sp_cnt_c (Q := fun _ => false) (40 - nK) (0 + nK) 0 (fun j hj => by
          show Nat.testBit _ _ = _
          rw [t9 _ (by omega), decide_eq_false (by omega), Bool.and_false])]
        have z0 : ∀ n i, sp_cnt (fun _ => false) i n = 0 := by
          intro n
          induction n with
          | zero => intro i; rfl
          | succ n ih => intro i; unfold sp_cnt; rw [ih]; rfl
        rw [z0]
        congr 2
        omega
      rw [if_neg (not_not_intro q), e2]
      exact ⟨y3, φ', ψ3, rfl, by rw [if_pos q], fin⟩
    · have hne : ¬ x1 = -1 := by
        rw [q]; intro z
        have := congrArg (fun x : Int32 => x.toInt) z
        simp only [ya_int hw] at this
        rw [show (-1 : Int32).toInt = -1 from rfl] at this
        omega
      have e2 : se_keptOf F nR nN nT gg φ' x' x1 = some y4 := by
        unfold se_keptOf
        rw [w3 w q hw, q, if_pos (by omega)]
        exact sc_kept (hKx.fr t4) hF.1 t9 nK F 0 w (by omega) (by omega) hw
      rw [if_pos hne, e2]
      exact ⟨y4, φ', ψ3, rfl, by rw [if_neg hne], fin⟩
  · rw [if_neg c0, if_neg c0]
    exact ⟨-1, φ, _, rfl, rfl, h.th 0⟩
end S11
