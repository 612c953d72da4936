/-! SEMANTICS: out, left, groups -/
def ss_P (Hb : List Nat) (φ0 ψ0 : qm_F) : Prop := Hb.length ≤ 5 ∧ Hb.sum ≤ 7 ∧ φ0 14 2 = Int32.ofNat Hb.length ∧ ψ0 2 2 = Int32.ofNat Hb.length ∧ (∀ k x, Hb[k]? = some x → φ0 16 k = Int32.ofNat x ∧ ψ0 4 (3 + k) = Int32.ofNat x)
def sx_K (nI : Nat) (pn : Nat → Int32) (kp : Nat → Nat) (nK : Nat) (φ : qm_F) : Prop := (∀ k, k < 5 → φ 31 k = pn k) ∧ φ 30 5 = Int32.ofNat nK ∧ (∀ j, j < nK → φ 32 j = Int32.ofNat (kp j) ∧ kp j < nI) ∧ nK ≤ 40
def sm_K (nI : Nat) (pn : Nat → Int32) (kp : Nat → Nat) (nK : Nat) (b : Nat → Bool) (ψ : qm_F) : Prop := (∀ k, k < 5 → ψ 15 k = pn k) ∧ ψ 0 45 = Int32.ofNat nK ∧ (∀ j, j < nK → ψ 20 j = Int32.ofNat (kp j) ∧ kp j < nI) ∧ nK ≤ 40 ∧ (∀ j, j < 40 → ψ 21 j = if b j = true then 0 else 1)
def ss_out (pn : Nat → Int32) (Hb : List Nat) (g : Nat) : Int32 := sp_find (fun k => decide (pn k ≠ -1) && decide (pn k ≠ rp_v Hb g k)) (fun _ => 1) 0 0 Hb.length
def ss_left (V : Nat → Nat → Nat) (pn : Nat → Int32) (Hb : List Nat) (kp : Nat → Nat) (nK : Nat) (b : Nat → Bool) (g : Nat) : Int32 := if ss_out pn Hb g = 0 then sp_find (fun j => b j && decide (V g (kp j) ≠ 0)) (fun _ => 0) 1 0 nK else 0
def ss_bt (x : Int64) (j : Nat) : Bool := !decide ((lg_cmp (((Int64.toUInt64 x >>> ((Int32.toInt64 (Int32.ofNat j)).toUInt64 &&& Int64.toUInt64 63)).toInt64) &&& 1) 0) = 0)
theorem ss_btall : ∀ j, j < 40 → ss_bt (-1) j = true := by decide +kernel
theorem sp_find01 (P : Nat → Bool) : ∀ n i, sp_find P (fun _ => 0) 1 i n = 0 ∨ sp_find P (fun _ => 0) 1 i n = 1 := by
  intro n
  induction n with
  | zero => intro i; exact Or.inr rfl
  | succ n ih =>
    intro i
    unfold sp_find
    split
    · exact Or.inl rfl
    · exact ih (i + 1)
theorem ss_left01 {V : Nat → Nat → Nat} {pn : Nat → Int32} {Hb : List Nat} {kp : Nat → Nat} {nK : Nat} {b : Nat → Bool} (g : Nat) : ss_left V pn Hb kp nK b g = 0 ∨ ss_left V pn Hb kp nK b g = 1 := by
  unfold ss_left
  split
  · exact sp_find01 _ _ _
  · exact Or.inl rfl
section S2
variable {F nR nN nT gg nI u nK : Nat} {φ0 ψ0 φ ψ : qm_F} {V : Nat → Nat → Nat} {Hb : List Nat} {pn : Nat → Int32} {kp : Nat → Nat} {b : Nat → Bool}
theorem sx_K.fr {φ' : qm_F} (h : sx_K nI pn kp nK φ) (f : sx_f φ φ') : sx_K nI pn kp nK φ' :=
  ⟨fun k hk => by rw [f 31 k (by omega) (by omega)]; exact h.1 k hk, by rw [f 30 5 (by omega) (by omega)]; exact h.2.1, fun j hj => by rw [f 32 j (by omega) (by omega)]; exact h.2.2.1 j hj, h.2.2.2⟩
theorem sm_K.fr {ψ' : qm_F} (h : sm_K nI pn kp nK b ψ) (f : sm_f ψ ψ') : sm_K nI pn kp nK b ψ' :=
  ⟨fun k hk => by rw [f 15 k (by omega) (by omega)]; exact h.1 k hk, by rw [f 0 45 (by omega) (by omega)]; exact h.2.1, fun j hj => by rw [f 20 j (by omega) (by omega)]; exact h.2.2.1 j hj, h.2.2.2.1, fun j hj => by rw [f 21 j (by omega) (by omega)]; exact h.2.2.2.2 j hj⟩
theorem sx_shift (hF : 200000 ≤ F) (hP : ss_P Hb φ0 ψ0) (h : sx_st φ0 φ) {k : Nat} (hk : k < Hb.length) : pr_shiftOfHole F nR nN nT φ (Int32.ofNat k) = some (Int32.ofNat (rp_sh Hb k)) := by
  obtain ⟨p1, p2, p3, p4, p5⟩ := hP
  have hd : ∀ i, i < Hb.length → φ 16 i = Int32.ofNat (Hb.getD i 0) := by
    intro i hi
    rw [h.1 16 i (by omega) (by omega), (p5 i Hb[i] (List.getElem?_eq_getElem hi)).1, List.getD_eq_getElem?_getD, List.getElem?_eq_getElem hi]
    rfl
  have e2 : φ 14 2 = Int32.ofNat Hb.length := by rw [h.1 14 2 (by omega) (by omega)]; exact p3
  have : ∀ (m i : Nat), Hb.length + 1 ≤ m + i → k + 1 ≤ i → i ≤ Hb.length → pr_shiftOfHole_L6 F nR nN nT m φ (Int32.ofNat (rp_sh Hb k - (Hb.drop i).sum)) (Int32.ofNat i) = some (Int32.ofNat (rp_sh Hb k)) := by
    intro m
    induction m with
    | zero => intro i h1 h2 h3; omega
    | succ m ih =>
      intro i h1 h2 h3
      unfold pr_shiftOfHole_L6
      rw [e2, yi_le (by omega) (by omega)]
      by_cases q : Hb.length ≤ i
      · have e0 : (Hb.drop i).sum = 0 := by rw [List.drop_eq_nil_of_le q]; rfl
        rw [if_pos q, e0, Nat.sub_zero]
      · rw [if_neg q, ya_in (by omega) (by omega), ya_nn (by omega), hd i (by omega), ya_add, ya_add1]
        have e1 := rp_drop Hb (k := i) (by omega)
        have hle : (Hb.drop i).sum ≤ rp_sh Hb k := by
          unfold rp_sh
          have : (Hb.drop i) = (Hb.drop (k + 1)).drop (i - (k + 1)) := by rw [List.drop_drop]; congr 1; omega
          rw [this]
          exact rp_sumle _ _
        rw [show rp_sh Hb k - (Hb.drop i).sum + Hb.getD i 0 = rp_sh Hb k - (Hb.drop (i + 1)).sum by omega]
        exact ih (i + 1) (by omega) (by omega) (by omega)
  unfold pr_shiftOfHole
  rw [ya_add1]
  have := this F (k + 1) (by omega) (Nat.le_refl _) (by omega)
  rw [show rp_sh Hb k - (Hb.drop (k + 1)).sum = 0 by unfold rp_sh; omega] at this
  exact this
theorem sx_hole1 (hP : ss_P Hb φ0 ψ0) (h : sx_st φ0 φ) {k : Nat} (hk : k < Hb.length) : pr_hasHole F nR nN nT φ (Int32.ofNat k) = some 1 := by
  obtain ⟨p1, p2, p3, p4, p5⟩ := hP
  unfold pr_hasHole
  rw [h.1 14 2 (by omega) (by omega), p3, if_neg (ya_lt0 (by omega)), if_neg (by rw [ya_le (by omega) (by omega)]; omega), if_neg (by rw [show (5 : Int32) = Int32.ofNat 5 from rfl, ya_le (by omega) (by omega)]; omega)]
theorem sx_value (hF : 200000 ≤ F) (hP : ss_P Hb φ0 ψ0) (h : sx_st φ0 φ) {g k : Nat} (hg : g < 2147483648) (hk : k < Hb.length) : pr_valueOf F nR nN nT φ (Int32.ofNat g) (Int32.ofNat k) = some (rp_v Hb g k) := by
  have hP' := hP
  obtain ⟨p1, p2, p3, p4, p5⟩ := hP'
  have e16 : φ 16 k = Int32.ofNat (Hb.getD k 0) := by
    rw [h.1 16 k (by omega) (by omega), (p5 k Hb[k] (List.getElem?_eq_getElem hk)).1, List.getD_eq_getElem?_getD, List.getElem?_eq_getElem hk]
    rfl
  have hsh : rp_sh Hb k ≤ 7 := Nat.le_trans (rp_sumle Hb (k + 1)) p2
  unfold pr_valueOf
  rw [sx_hole1 hP h hk]
  simp only [yb1]
  rw [if_neg (by decide), sx_shift hF hP h hk]
  simp only [yb1]
  rw [ya_in (by omega) (by omega), ya_nn (by omega), e16, ya_shr hg (by omega)]
  rfl
theorem sm_hole (hF : 200000 ≤ F) (hP : ss_P Hb φ0 ψ0) (h : sm_st ψ0 ψ) {g k : Nat} (hg : g < 2147483648) (hk : k < Hb.length) : mo_holeIn F ψ (Int32.ofNat g) (Int32.ofNat k) = some (rp_v Hb g k) := by
  obtain ⟨p1, p2, p3, p4, p5⟩ := hP
  unfold mo_holeIn
  rw [h 2 2 (by omega), p4, show mo_partOf F ψ (Int32.ofNat g) 3 (Int32.ofNat Hb.length) (Int32.ofNat k) = _ from rp_part (F := F) (ψ := ψ) (o := 3) (by omega) (fun k x hx => by rw [h 4 _ (by have := (List.getElem?_eq_some_iff.mp hx).1; omega)]; exact (p5 k x hx).2) (by omega) p2 hg hk]
  rfl
theorem sx_out (hF : 200000 ≤ F) (hP : ss_P Hb φ0 ψ0) (h : sx_st φ0 φ) (hK : sx_K nI pn kp nK φ) {g : Nat} (hg : g < 2147483648) : se_isOut F nR nN nT gg φ (Int32.ofNat g) = some (ss_out pn Hb g) := by
  have p1 := hP.1
  have e2 : φ 14 2 = Int32.ofNat Hb.length := by rw [h.1 14 2 (by omega) (by omega)]; exact hP.2.2.1
  have : ∀ (n m k : Nat), n + k = Hb.length → n + 1 ≤ m → se_isOut_L2 F nR nN nT gg m φ (Int32.ofNat g) (Int32.ofNat k) = some (sp_find (fun k => decide (pn k ≠ -1) && decide (pn k ≠ rp_v Hb g k)) (fun _ => 1) 0 k n) := by
    intro n
    induction n with
    | zero =>
      intro m k h1 h2
      obtain ⟨m, rfl⟩ : ∃ z, m = z + 1 := ⟨m - 1, by omega⟩
      unfold se_isOut_L2
      rw [e2, if_pos (by rw [ya_le (by omega) (by omega)]; omega)]
      rfl
    | succ n ih =>
      intro m k h1 h2
      obtain ⟨m, rfl⟩ : ∃ z, m = z + 1 := ⟨m - 1, by omega⟩
      have e31 := hK.1 k (by omega)
      unfold se_isOut_L2 sp_find
      rw [e2, if_neg (by rw [ya_le (by omega) (by omega)]; omega), if_neg (by rw [show (5 : Int32) = Int32.ofNat 5 from rfl, ya_le (by omega) (by omega)]; omega), ya_in (by omega) (by omega), ya_nn (by omega), e31]
      simp only [yg1]
      rw [sx_value hF hP h hg (by omega)]
      simp only [yb1]
      by_cases q : pn k = -1
      · rw [if_pos q, if_neg (by simp [q]), ya_add1]
        exact ih m (k + 1) (by omega) (by omega)
      · rw [if_neg q]
        by_cases q2 : pn k = rp_v Hb g k
        · rw [if_pos q2, if_neg (by simp [q2]), ya_add1]
          exact ih m (k + 1) (by omega) (by omega)
        · rw [if_neg q2, if_pos (by simp [q, q2])]
  exact this Hb.length F 0 (by omega) (by omega)
theorem sm_out (hF : 200000 ≤ F) (hP : ss_P Hb φ0 ψ0) (h : sm_st ψ0 ψ) (hK : sm_K nI pn kp nK b ψ) {g : Nat} (hg : g < 2147483648) : mo_isOut F ψ (Int32.ofNat g) = some (ss_out pn Hb g) := by
  have p1 := hP.1
  have e2 : ψ 2 2 = Int32.ofNat Hb.length := by rw [h 2 2 (by omega)]; exact hP.2.2.2.1
  have : ∀ (n m k : Nat), n + k = Hb.length → n + 1 ≤ m → mo_isOut_L2 F m ψ (Int32.ofNat g) (Int32.ofNat k) = some (sp_find (fun k => decide (pn k ≠ -1) && decide (pn k ≠ rp_v Hb g k)) (fun _ => 1) 0 k n) := by
    intro n
    induction n with
    | zero =>
      intro m k h1 h2
      obtain ⟨m, rfl⟩ : ∃ z, m = z + 1 := ⟨m - 1, by omega⟩
      unfold mo_isOut_L2
      rw [e2, if_pos (by rw [ya_le (by omega) (by omega)]; omega)]
      rfl
    | succ n ih =>
      intro m k h1 h2
      obtain ⟨m, rfl⟩ : ∃ z, m = z + 1 := ⟨m - 1, by omega⟩
      have e31 := hK.1 k (by omega)
      unfold mo_isOut_L2 sp_find
      rw [e2, if_neg (by rw [ya_le (by omega) (by omega)]; omega), ya_in (by omega) (by omega), ya_nn (by omega), e31]
      simp only [yg1]
      rw [sm_hole hF hP h hg (by omega)]
      simp only [yb1]
      by_cases q : pn k = -1
      · rw [if_pos q, if_neg (by simp [q]), ya_add1]
        exact ih m (k + 1) (by omega) (by omega)
      · rw [if_neg q]
        by_cases q2 : rp_v Hb g k = pn k
        · rw [if_pos q2, if_neg (by simp [q2]), ya_add1]
          exact ih m (k + 1) (by omega) (by omega)
        · rw [if_neg q2, if_pos (by simp [q]; exact fun z => q2 z.symm)]
  exact this Hb.length F 0 (by omega) (by omega)
theorem sx_left (H : ss_H F nR nN nT gg nI φ0 ψ0 V u) (hP : ss_P Hb φ0 ψ0) (hI : sx_I gg nI φ0 V u φ) (hK : sx_K nI pn kp nK φ) {x : Int64} (hx : ∀ j, j < 40 → ss_bt x j = b j) {g : Nat} (hg : g < gg) : ∃ φ', se_isLeft F nR nN nT gg φ (Int32.ofNat g) x = some (ss_left V pn Hb kp nK b g, φ') ∧ sx_I gg nI φ0 V u φ' ∧ sx_f φ φ' := by
  have hF := ss_F H
  unfold se_isLeft ss_left
  rw [sx_out (nI := nI) (by omega) hP hI.1 hK (by omega)]
  simp only [yb1]
  by_cases q : ss_out pn Hb g = 0
  · rw [if_pos q, if_pos q]
    obtain ⟨φ', ⟨a1, a2⟩, e⟩ := sg_find (L := fun m φ i => se_isLeft_L13 F nR nN nT gg (2 * m + F % 2) 0 φ (Int32.ofNat g) x i 0) (I := fun φ1 => sx_I gg nI φ0 V u φ1 ∧ sx_f φ φ1) (N := nK) (fun j => b j && decide (V g (kp j) ≠ 0)) (fun _ => 0) 1 (fun m φ1 j hh hj => by
        have hK1 := hK.fr hh.2
        have k40 := hK.2.2.2
        obtain ⟨k1, k2⟩ := hK1.2.2.1 j hj
        have hbt := hx j (by omega)
        have step : ∀ m', se_isLeft_L13 F nR nN nT gg (m' + 2) 0 φ1 (Int32.ofNat g) x (Int32.ofNat j) 0 = if b j = true then (qb2 (ve_verdictOf F nR nN nT gg φ1 (Int32.ofNat g) (Int32.ofNat (kp j))) fun y1 φ2 => if y1 = 0 then se_isLeft_L13 F nR nN nT gg m' 0 φ2 (Int32.ofNat g) x (Int32.ofNat (j + 1)) 0 else some (0, φ2)) else se_isLeft_L13 F nR nN nT gg m' 0 φ1 (Int32.ofNat g) x (Int32.ofNat (j + 1)) 0 := by
          intro m'
          have tg : ∀ s0 : Int32, se_isLeft_L13 F nR nN nT gg (m' + 1) 1 φ1 (Int32.ofNat g) x (Int32.ofNat j) s0 = if s0 = 0 then se_isLeft_L13 F nR nN nT gg m' 0 φ1 (Int32.ofNat g) x (Int32.ofNat (j + 1)) 0 else (qb2 (ve_verdictOf F nR nN nT gg φ1 (Int32.ofNat g) (Int32.ofNat (kp j))) fun y1 φ2 => if y1 = 0 then se_isLeft_L13 F nR nN nT gg m' 0 φ2 (Int32.ofNat g) x (Int32.ofNat (j + 1)) 0 else some (0, φ2)) := by
            intro s0
            conv => lhs; unfold se_isLeft_L13
            rw [if_neg (by omega), ya_add1, ya_in (by omega) (by omega), ya_nn (by omega), k1]
            rfl
          conv => lhs; unfold se_isLeft_L13
          rw [if_pos rfl, hK1.2.1, if_neg (by rw [ya_le (by omega) (by omega)]; omega), if_neg (by rw [show (40 : Int32) = Int32.ofNat 40 from rfl, ya_le (by omega) (by omega)]; omega), tg, tg]
          unfold ss_bt at hbt
          by_cases w : lg_cmp (((Int64.toUInt64 x >>> ((Int32.toInt64 (Int32.ofNat j)).toUInt64 &&& Int64.toUInt64 63)).toInt64) &&& 1) 0 = 0
          · rw [if_pos w, if_pos rfl, if_neg (by rw [← hbt]; simp [w])]
          · rw [if_neg w, if_neg (by decide), if_pos (by rw [← hbt]; simp [w])]
        have e2m : 2 * (m + 1) + F % 2 = 2 * m + F % 2 + 2 := by omega
        by_cases qb : b j = true
        · obtain ⟨φ2, e1, e2, e3⟩ := sx_verdict H hh.1 hg k2
          refine ⟨φ2, ⟨e2, hh.2.trans e3⟩, ?_⟩
          show se_isLeft_L13 F nR nN nT gg (2 * (m + 1) + F % 2) 0 φ1 (Int32.ofNat g) x (Int32.ofNat j) 0 = _
          rw [e2m, step, if_pos qb, e1]
          simp only [yb2]
          have z := ss_0 (ss_V5 H hg k2)
          by_cases w : V g (kp j) = 0
          · rw [if_pos (z.1.mpr w), if_neg (by simp [w])]
          · rw [if_neg (fun y => w (z.1.mp y)), if_pos (by simp [w, qb])]
        · refine ⟨φ1, hh, ?_⟩
          show se_isLeft_L13 F nR nN nT gg (2 * (m + 1) + F % 2) 0 φ1 (Int32.ofNat g) x (Int32.ofNat j) 0 = _
          rw [e2m, step, if_neg qb, if_neg (by simp [qb])]) (fun m φ1 hh => by
        have hK1 := hK.fr hh.2
        have k40 := hK.2.2.2
        show se_isLeft_L13 F nR nN nT gg (2 * (m + 1) + F % 2) 0 φ1 (Int32.ofNat g) x (Int32.ofNat nK) 0 = _
        rw [show 2 * (m + 1) + F % 2 = (2 * m + F % 2 + 1) + 1 by omega]
        unfold se_isLeft_L13
        rw [if_pos rfl, hK1.2.1]
        exact if_pos ((ya_le (by omega) (by omega)).mpr (Nat.le_refl _))) nK (F / 2) 0 φ (by omega) (by have := hK.2.2.2; omega) ⟨hI, sx_f0 φ⟩
    have e' : se_isLeft_L13 F nR nN nT gg (2 * (F / 2) + F % 2) 0 φ (Int32.ofNat g) x (Int32.ofNat 0) 0 = _ := e
    rw [show 2 * (F / 2) + F % 2 = F by omega] at e'
    exact ⟨φ', e', a1, a2⟩
  · rw [if_neg q, if_neg q]
    exact ⟨φ, rfl, hI, sx_f0 φ⟩
theorem sm_left (H : ss_H F nR nN nT gg nI φ0 ψ0 V u) (hP : ss_P Hb φ0 ψ0) (hI : sm_I gg nI ψ0 V u ψ) (hK : sm_K nI pn kp nK b ψ) {g : Nat} (hg : g < gg) : ∃ ψ', mo_isLeft F ψ (Int32.ofNat g) = some (ss_left V pn Hb kp nK b g, ψ') ∧ sm_I gg nI ψ0 V u ψ' ∧ sm_f ψ ψ' := by
  have hF := ss_F H
  unfold mo_isLeft ss_left
  rw [sm_out (nI := nI) (by omega) hP hI.1 hK (by omega)]
  simp only [yb1]
  by_cases q : ss_out pn Hb g = 0
  · rw [if_pos q, if_pos q]
    obtain ⟨ψ', ⟨a1, a2⟩, e⟩ := sg_find (L := fun m φ i => mo_isLeft_L12 F m φ (Int32.ofNat g) i) (I := fun φ1 => sm_I gg nI ψ0 V u φ1 ∧ sm_f ψ φ1) (N := nK) (fun j => b j && decide (V g (kp j) ≠ 0)) (fun _ => 0) 1 (fun m φ1 j hh hj => by
        have hK1 := hK.fr hh.2
        have k40 := hK.2.2.2.1
        obtain ⟨k1, k2⟩ := hK1.2.2.1 j hj
        have k21 := hK1.2.2.2.2 j (by omega)
        have step : mo_isLeft_L12 F (m + 1) φ1 (Int32.ofNat g) (Int32.ofNat j) = if b j = true then (qb2 (mo_verdictOf F φ1 (Int32.ofNat g) (Int32.ofNat (kp j))) fun y1 φ2 => if y1 ≤ 0 then mo_isLeft_L12 F m φ2 (Int32.ofNat g) (Int32.ofNat (j + 1)) else some (0, φ2)) else mo_isLeft_L12 F m φ1 (Int32.ofNat g) (Int32.ofNat (j + 1)) := by
          conv => lhs; unfold mo_isLeft_L12
          rw [hK1.2.1, if_neg (by rw [ya_le (by omega) (by omega)]; omega), ya_in (by omega) (by omega), ya_nn (by omega), k21, k1, ya_add1]
          simp only [yg1]
          by_cases qb : b j = true
          · rw [if_pos qb, if_pos qb, if_neg (by decide)]
          · rw [if_neg qb, if_neg qb, if_pos (by decide)]
        by_cases qb : b j = true
        · obtain ⟨φ2, e1, e2, e3⟩ := sm_verdict H hh.1 hg k2
          refine ⟨φ2, ⟨e2, hh.2.trans e3⟩, ?_⟩
          show mo_isLeft_L12 F (m + 1) φ1 (Int32.ofNat g) (Int32.ofNat j) = _
          rw [step, if_pos qb, e1]
          simp only [yb2]
          have z := ss_0 (ss_V5 H hg k2)
          by_cases w : V g (kp j) = 0
          · rw [if_pos (z.2.mpr w), if_neg (by simp [w])]
          · rw [if_neg (fun y => w (z.2.mp y)), if_pos (by simp [w, qb])]
        · refine ⟨φ1, hh, ?_⟩
          show mo_isLeft_L12 F (m + 1) φ1 (Int32.ofNat g) (Int32.ofNat j) = _
          rw [step, if_neg qb, if_neg (by simp [qb])]) (fun m φ1 hh => by
        have hK1 := hK.fr hh.2
        have k40 := hK.2.2.2.1
        show mo_isLeft_L12 F (m + 1) φ1 (Int32.ofNat g) (Int32.ofNat nK) = _
        unfold mo_isLeft_L12
        rw [hK1.2.1, if_pos (by rw [ya_le (by omega) (by omega)]; omega)]) nK F 0 ψ (by omega) (by have := hK.2.2.2.1; omega) ⟨hI, sm_f0 ψ⟩
    exact ⟨ψ', e, a1, a2⟩
  · rw [if_neg q, if_neg q]
    exact ⟨ψ, rfl, hI, sm_f0 ψ⟩
/-- groups: 0 left, 1 true, 2 not out -/
def ss_of (V : Nat → Nat → Nat) (nI : Nat) (pn : Nat → Int32) (Hb : List Nat) (kp : Nat → Nat) (nK : Nat) (b : Nat → Bool) (w g : Nat) : Bool :=
  if w = 0 then decide (ss_left V pn Hb kp nK b g ≠ 0) else if w = 1 then decide (ss_out pn Hb g = 0) && decide (ss_least V nI g = -1) else decide (ss_out pn Hb g = 0)
theorem ss_least_neg {V : Nat → Nat → Nat} {nI g : Nat} (hn : nI ≤ 128) : (ss_least V nI g = -1) ↔ ¬ (0 ≤ ss_least V nI g) := by
  have : ∀ n i, n + i = nI → sp_find (fun i => decide (V g i ≠ 0)) Int32.ofNat (-1) i n = -1 ∨ ∃ k, k < nI ∧ sp_find (fun i => decide (V g i ≠ 0)) Int32.ofNat (-1) i n = Int32.ofNat k := by
    intro n
    induction n with
    | zero => intro i _; exact Or.inl rfl
    | succ n ih =>
      intro i hi
      unfold sp_find
      split
      · exact Or.inr ⟨i, by omega, rfl⟩
      · exact ih (i + 1) (by omega)
  unfold ss_least
  rcases this nI 0 (by omega) with h | ⟨k, hk, h⟩
  · rw [h]; decide
  · rw [h]
    constructor
    · intro z; exact absurd (show Int32.ofNat k < 0 by rw [z]; decide) (ya_lt0 (by omega))
    · intro z; exact absurd (ya_ge0 (by omega)) z
theorem sx_of (H : ss_H F nR nN nT gg nI φ0 ψ0 V u) (hP : ss_P Hb φ0 ψ0) (hI : sx_I gg nI φ0 V u φ) (hK : sx_K nI pn kp nK φ) (hb : ∀ j, j < 40 → b j = true) {w g : Nat} (hw : w < 3) (hg : g < gg) : ∃ φ' y, se_isOf F nR nN nT gg φ (Int32.ofNat w) (Int32.ofNat g) = some (y, φ') ∧ (y = 0 ↔ ss_of V nI pn Hb kp nK b w g = false) ∧ sx_I gg nI φ0 V u φ' ∧ sx_f φ φ' := by
  have hF := ss_F H
  have hout := sx_out (F := F) (nR := nR) (nN := nN) (nT := nT) (gg := gg) (nI := nI) (by omega) hP hI.1 hK (g := g) (by omega)
  unfold se_isOf ss_of
  match w, hw with
  | 0, _ =>
    obtain ⟨φ', e, a1, a2⟩ := sx_left (x := -1) (b := b) H hP hI hK (fun j hj => by rw [ss_btall j hj, hb j hj]) hg
    rw [if_pos (by decide), e]
    simp only [yb2]
    rcases ss_left01 (V := V) (pn := pn) (Hb := Hb) (kp := kp) (nK := nK) (b := b) g with z | z
    · rw [z]
      exact ⟨φ', 0, rfl, by simp, a1, a2⟩
    · rw [z]
      exact ⟨φ', 1, rfl, by simp, a1, a2⟩
  | 1, _ =>
    rw [if_neg (by decide), if_pos (by decide), hout]
    simp only [yb1]
    by_cases q : ss_out pn Hb g = 0
    · rw [if_neg (by simp [q])]
      obtain ⟨φ', e, a1, a2⟩ := sx_least H hI hg
      rw [e]
      simp only [yb2]
      by_cases q2 : ss_least V nI g = -1
      · rw [if_neg (by simp [q2])]
        exact ⟨φ', 1, rfl, by simp [q, q2], a1, a2⟩
      · rw [if_pos q2]
        exact ⟨φ', 0, rfl, by simp [q, q2], a1, a2⟩
    · rw [if_pos q]
      exact ⟨φ, 0, rfl, by simp [q], hI, sx_f0 φ⟩
  | 2, _ =>
    rw [if_neg (by decide), if_neg (by decide), if_pos (by decide), hout]
    simp only [yb1]
    by_cases q : ss_out pn Hb g = 0
    · rw [if_neg (by simp [q])]
      exact ⟨φ, 1, rfl, by simp [q], hI, sx_f0 φ⟩
    · rw [if_pos q]
      exact ⟨φ, 0, rfl, by simp [q], hI, sx_f0 φ⟩
theorem sm_of (H : ss_H F nR nN nT gg nI φ0 ψ0 V u) (hP : ss_P Hb φ0 ψ0) (hI : sm_I gg nI ψ0 V u ψ) (hK : sm_K nI pn kp nK b ψ) {w g : Nat} (hw : w < 3) (hg : g < gg) : ∃ ψ' y, mo_isOf2 F ψ (Int32.ofNat g) (Int32.ofNat w) = some (y, ψ') ∧ (y = 0 ↔ ss_of V nI pn Hb kp nK b w g = false) ∧ sm_I gg nI ψ0 V u ψ' ∧ sm_f ψ ψ' := by
  have hF := ss_F H
  have hout := sm_out (F := F) (nI := nI) (by omega) hP hI.1 hK (g := g) (by omega)
  unfold mo_isOf2 ss_of
  match w, hw with
  | 0, _ =>
    obtain ⟨ψ', e, a1, a2⟩ := sm_left H hP hI hK hg
    rw [if_neg (by decide), e]
    simp only [yb2]
    rcases ss_left01 (V := V) (pn := pn) (Hb := Hb) (kp := kp) (nK := nK) (b := b) g with z | z
    · rw [z]
      exact ⟨ψ', 0, rfl, by simp, a1, a2⟩
    · rw [z]
      exact ⟨ψ', 1, rfl, by simp, a1, a2⟩
  | 1, _ =>
    rw [if_pos (by decide), if_neg (by decide), hout]
    simp only [yb1]
    by_cases q : ss_out pn Hb g = 0
    · rw [if_neg (by simp [q])]
      obtain ⟨ψ', e, a1, a2⟩ := sm_least H hI hg
      rw [e]
      simp only [yb2]
      have hn := ss_least_neg (V := V) (nI := nI) (g := g) (by omega)
      by_cases q2 : ss_least V nI g = -1
      · rw [if_neg (hn.mp q2)]
        exact ⟨ψ', 1, rfl, by simp [q, q2], a1, a2⟩
      · rw [if_pos (by
          by_cases z : 0 ≤ ss_least V nI g
          · exact z
          · exact absurd (hn.mpr z) q2)]
        exact ⟨ψ', 0, rfl, by simp [q, q2], a1, a2⟩
    · rw [if_pos q]
      exact ⟨ψ, 0, rfl, by simp [q], hI, sm_f0 ψ⟩
  | 2, _ =>
    rw [if_pos (by decide), if_pos (by decide), hout]
    simp only [yb1]
    by_cases q : ss_out pn Hb g = 0
    · rw [if_neg (by simp [q])]
      exact ⟨ψ, 1, rfl, by simp [q], hI, sm_f0 ψ⟩
    · rw [if_pos q]
      exact ⟨ψ, 0, rfl, by simp [q], hI, sm_f0 ψ⟩
end S2
