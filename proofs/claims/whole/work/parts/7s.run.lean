/-! SEMANTICS: a whole run on both sides -/
def rs_D (nT W : Nat) (Ib Hb Hr : List Nat) (v ns M p r : Nat) (φ ψ : qm_F) : Prop :=
  (1 ≤ W ∧ W ≤ 16 ∧ Ib.length ≤ 3 ∧ Hb.length ≤ 5 ∧ Hr.length = Hb.length ∧ v ≤ 4 ∧ Ib.sum ≤ 7 ∧ Hb.sum ≤ 7 ∧ (∀ x, x ∈ Ib → 1 ≤ x ∧ x ≤ 6) ∧ (∀ x, x ∈ Hb → 1 ≤ x ∧ x ≤ 6) ∧ (∀ x, x ∈ Hr → x ≤ 9)) ∧
  (φ 14 0 = Int32.ofNat W ∧ φ 14 1 = Int32.ofNat Ib.length ∧ φ 14 2 = Int32.ofNat Hb.length ∧ φ 14 3 = Int32.ofNat v ∧ φ 14 4 = Int32.ofNat ns ∧ φ 14 5 = Int32.ofNat Ib.sum ∧ φ 14 6 = Int32.ofNat Hb.sum ∧ φ 14 13 = Int32.ofNat (r + 1) ∧ φ 26 1 = (1 <<< (Int32.ofNat W &&& 31)) - 1 ∧ φ 20 r = 14) ∧
  (ψ 2 0 = Int32.ofNat W ∧ ψ 2 1 = Int32.ofNat Ib.length ∧ ψ 2 2 = Int32.ofNat Hb.length ∧ ψ 2 3 = Int32.ofNat v ∧ ψ 2 4 = Int32.ofNat ns ∧ ψ 2 5 = Int32.ofNat Ib.sum ∧ ψ 2 6 = Int32.ofNat Hb.sum) ∧
  (∀ k x, Ib[k]? = some x → φ 15 k = Int32.ofNat x ∧ ψ 4 k = Int32.ofNat x) ∧
  (∀ k x, Hb[k]? = some x → φ 16 k = Int32.ofNat x ∧ ψ 4 (3 + k) = Int32.ofNat x) ∧
  (∀ k x, Hr[k]? = some x → φ 17 k = Int32.ofNat x ∧ ψ 5 (3 + k) = Int32.ofNat x) ∧
  ns ≤ 24 ∧ M ≤ 800 ∧ r + 1 ≤ nT ∧ r + 1 ≤ 801 ∧ YL (rn_Z φ ψ) (rn_T ψ) M 0 0 ns 0 p ∧ p ≤ r ∧ yl_E (rn_Z φ ψ) M (ψ 9 0) (ψ 10 0) p r
def rs_fx (φ φ' : qm_F) : Prop := ∀ a j, ¬ (a = 26 ∧ 5 ≤ j ∧ j ≤ 9) → ¬ (a = 27 ∨ a = 28 ∨ a = 29) → φ' a j = φ a j
section R5
variable {F nR nN nT gg : Nat} {φ ψ : qm_F} {W : Nat} {Ib Hb Hr : List Nat} {v ns M p r : Nat}
/-- the reference's slots are filled -/
def rs_sl (Ib Hb : List Nat) (g i : Nat) (j : Nat) : Int32 := if j < Ib.length then rp_v Ib i j else if 3 ≤ j ∧ j < 3 + Hb.length then rp_v Hb g (j - 3) else 0
theorem rs_m3 (hF : 4000 ≤ F) (hB : ∀ k x, Hb[k]? = some x → ψ 4 (3 + k) = Int32.ofNat x) (hl : Hb.length ≤ 5) (hs : Hb.sum ≤ 7) (h22 : ψ 2 2 = Int32.ofNat Hb.length) {g : Nat} (hg : g < 2147483648) : ∀ (m k : Nat) (ψ1 : qm_F), Hb.length + 1 ≤ m + k → k ≤ Hb.length → rn_fm ψ ψ1 → ∃ ψ', mo_ran_L60 F m ψ1 (Int32.ofNat g) (Int32.ofNat k) = mo_ran_L60 F (m - (Hb.length - k)) ψ' (Int32.ofNat g) (Int32.ofNat Hb.length) ∧ rn_fm ψ ψ' ∧ (∀ j, 3 + k ≤ j → j < 3 + Hb.length → ψ' 17 j = rp_v Hb g (j - 3)) ∧ (∀ j, ¬ (3 + k ≤ j ∧ j < 3 + Hb.length) → ψ' 17 j = ψ1 17 j) := by
  intro m
  induction m with
  | zero => intro k ψ1 h1 h2; omega
  | succ m ih =>
    intro k ψ1 h1 h2 f1
    by_cases q : k = Hb.length
    · subst q
      exact ⟨ψ1, by rw [Nat.sub_self, Nat.sub_zero], f1, fun j a b => by omega, fun _ _ => rfl⟩
    · have hB1 : ∀ k x, Hb[k]? = some x → ψ1 4 (3 + k) = Int32.ofNat x := fun k x hx => by rw [f1 4 _ (by omega) (by omega)]; exact hB k x hx
      have e22 : ψ1 2 2 = Int32.ofNat Hb.length := by rw [f1 2 2 (by omega) (by omega)]; exact h22
      have hpart := rp_part (F := F) (ψ := ψ1) hF hB1 (by omega) hs hg (k := k) (by omega)
      have hst : mo_ran_L60 F (m + 1) ψ1 (Int32.ofNat g) (Int32.ofNat k) = mo_ran_L60 F m (qm_u ψ1 17 (3 + k) (rp_v Hb g k)) (Int32.ofNat g) (Int32.ofNat (k + 1)) := by
        conv => lhs; unfold mo_ran_L60
        unfold mo_holeIn
        rw [e22, if_neg (by rw [ya_le (by omega) (by omega)]; omega), show mo_partOf F ψ1 (Int32.ofNat g) 3 (Int32.ofNat Hb.length) (Int32.ofNat k) = _ from hpart]
        simp only [yb1]
        rw [show (3 : Int32) + Int32.ofNat k = Int32.ofNat (3 + k) from ya_add 3 k, ya_in (by omega) (by omega), ya_nn (by omega), ya_add1]
        rfl
      obtain ⟨ψ', e, f, z, o⟩ := ih (k + 1) (qm_u ψ1 17 (3 + k) (rp_v Hb g k)) (by omega) (by omega) (f1.u 17 _ _ (by omega))
      refine ⟨ψ', by rw [hst, e]; congr 1; omega, f, fun j a b => ?_, fun j hj => ?_⟩
      · by_cases w : j = 3 + k
        · subst w
          rw [o _ (by omega), ya_u_same, show 3 + k - 3 = k by omega]
        · exact z j (by omega) b
      · rw [o j (by omega)]
        have : j ≠ 3 + k := by omega
        simp [qm_u, this]
theorem rs_m2 (hF : 4000 ≤ F) (hI : ∀ k x, Ib[k]? = some x → ψ 4 k = Int32.ofNat x) (hl : Ib.length ≤ 3) (hs : Ib.sum ≤ 7) (h21 : ψ 2 1 = Int32.ofNat Ib.length) {g i : Nat} (hi : i < 2147483648) : ∀ (m k : Nat) (ψ1 : qm_F), Ib.length + 1 ≤ m + k → k ≤ Ib.length → rn_fm ψ ψ1 → ∃ ψ', mo_ran_L23 F m ψ1 (Int32.ofNat g) (Int32.ofNat i) (Int32.ofNat k) = mo_ran_L60 F F ψ' (Int32.ofNat g) 0 ∧ rn_fm ψ ψ' ∧ (∀ j, k ≤ j → j < Ib.length → ψ' 17 j = rp_v Ib i j) ∧ (∀ j, ¬ (k ≤ j ∧ j < Ib.length) → ψ' 17 j = ψ1 17 j) := by
  intro m
  induction m with
  | zero => intro k ψ1 h1 h2; omega
  | succ m ih =>
    intro k ψ1 h1 h2 f1
    have e21 : ψ1 2 1 = Int32.ofNat Ib.length := by rw [f1 2 1 (by omega) (by omega)]; exact h21
    by_cases q : k = Ib.length
    · subst q
      refine ⟨ψ1, ?_, f1, fun j a b => by omega, fun _ _ => rfl⟩
      unfold mo_ran_L23
      rw [e21, if_pos (by rw [ya_le (by omega) (by omega)]; omega)]
    · have hI1 : ∀ k x, Ib[k]? = some x → ψ1 4 (0 + k) = Int32.ofNat x := fun k x hx => by rw [Nat.zero_add, f1 4 _ (by omega) (by omega)]; exact hI k x hx
      have hpart := rp_part (F := F) (ψ := ψ1) (o := 0) hF hI1 (by omega) hs hi (k := k) (by omega)
      have hst : mo_ran_L23 F (m + 1) ψ1 (Int32.ofNat g) (Int32.ofNat i) (Int32.ofNat k) = mo_ran_L23 F m (qm_u ψ1 17 k (rp_v Ib i k)) (Int32.ofNat g) (Int32.ofNat i) (Int32.ofNat (k + 1)) := by
        conv => lhs; unfold mo_ran_L23
        rw [e21, if_neg (by rw [ya_le (by omega) (by omega)]; omega), show mo_partOf F ψ1 (Int32.ofNat i) 0 (Int32.ofNat Ib.length) (Int32.ofNat k) = _ from hpart]
        simp only [yb1]
        rw [ya_in (by omega) (by omega), ya_nn (by omega), ya_add1]
        rfl
      obtain ⟨ψ', e, f, z, o⟩ := ih (k + 1) (qm_u ψ1 17 k (rp_v Ib i k)) (by omega) (by omega) (f1.u 17 _ _ (by omega))
      refine ⟨ψ', by rw [hst, e], f, fun j a b => ?_, fun j hj => ?_⟩
      · by_cases w : j = k
        · subst w
          rw [o _ (by omega), ya_u_same]
        · exact z j (by omega) b
      · rw [o j (by omega)]
        have : j ≠ k := by omega
        simp [qm_u, this]
theorem rs_m1 (hF : 4000 ≤ F) (g i : Int32) : ∀ (m k : Nat) (ψ1 : qm_F), 16 ≤ m + k → k ≤ 15 → rn_fm ψ ψ1 → (∀ j, j < k → ψ1 17 j = 0) → ∃ ψ', mo_ran_L2 F m ψ1 g i (Int32.ofNat k) = mo_ran_L23 F F ψ' g i 0 ∧ rn_fm ψ ψ' ∧ (∀ j, j < 15 → ψ' 17 j = 0) := by
  intro m
  induction m with
  | zero => intro k ψ1 h1 h2; omega
  | succ m ih =>
    intro k ψ1 h1 h2 f1 hz
    by_cases q : k = 15
    · subst q
      refine ⟨ψ1, ?_, f1, hz⟩
      unfold mo_ran_L2
      rw [if_pos (by decide)]
    · obtain ⟨ψ', e, f, z⟩ := ih (k + 1) (qm_u ψ1 17 k 0) (by omega) (by omega) (f1.u 17 _ _ (by omega)) (fun j hj => by
        by_cases w : j = k
        · subst w; exact ya_u_same _ _ _ _
        · have := hz j (by omega)
          simp [qm_u, w, this])
      refine ⟨ψ', ?_, f, z⟩
      rw [← e]
      conv => lhs; unfold mo_ran_L2
      rw [if_neg (by rw [show (15 : Int32) = Int32.ofNat 15 from rfl, ya_le (by omega) (by omega)]; omega), ya_in (by omega) (by omega), ya_nn (by omega), ya_add1]
      rfl
/-- a whole run -/
theorem rs_run (hF : 200000 ≤ F) (hD : rs_D nT W Ib Hb Hr v ns M p r φ ψ) {u : Nat} (hu : ψ 0 43 = Int32.ofNat u) (hu9 : u ≤ 9) {g i : Nat} (hg : g < 2147483648) (hi : i < 2147483648) :
    ∃ (φ' ψ' : qm_F) (w k : Nat), ma_run F nR nN nT gg φ (Int32.ofNat g) (Int32.ofNat i) (Int32.ofNat u) = some φ' ∧ mo_ran F ψ (Int32.ofNat g) (Int32.ofNat i) = some (Int32.ofNat w, ψ') ∧ w ≤ 5 ∧ φ' 26 9 = Int32.ofNat w ∧ k ≤ 120 ∧ φ' 26 8 = Int32.ofNat k ∧ ψ' 0 37 = Int32.ofNat k ∧ (w ≤ 1 → ∀ j, j < 15 → φ' 27 j = ψ' 17 j) ∧ rs_fx φ φ' ∧ rn_fm ψ ψ' := by
  obtain ⟨⟨w1, w2, w3, w4, w5, w6, w7, w8, w9, w10, w11⟩, ⟨x0, x1, x2, x3, x4, x5, x6, x13, xm, x20⟩, ⟨y0, y1, y2, y3, y4, y5, y6⟩, z1, z2, z3, hns, hM, hT, hT2, hY, hpr, hE⟩ := hD
  -- the component's beginning
  obtain ⟨φ1, a1, a2, a3⟩ := rp_zero (F := F) (nR := nR) (nN := nN) (nT := nT) (gg := gg) (φ := φ) (by omega)
  obtain ⟨φ2, b1, b2, b3, b4, b5⟩ := rp_x2 (F := F) (nR := nR) (nN := nN) (nT := nT) (gg := gg) (φ := φ) (x := g) (y := i) (by omega) (fun k x hx => (z1 k x hx).1) (fun k x hx => (z2 k x hx).1) w3 w7 w4 w8 x2 hg hi Ib.length F φ1 (by omega) (Nat.le_refl _) a2 (fun j j1 j2 => by omega)
  have e0 : (Ib.drop Ib.length).sum = 0 := by rw [List.drop_eq_nil_of_le (Nat.le_refl _)]; rfl
  rw [e0, Nat.pow_zero, Nat.div_one] at b1
  have hfill : pr_fillSlots F nR nN nT gg φ (Int32.ofNat g) (Int32.ofNat i) = some φ2 := by
    unfold pr_fillSlots
    rw [if_pos (by decide), a1]
    simp only [yb1]
    rw [a2 14 1 (by omega), x1]
    exact b1
  obtain ⟨φ3, e3⟩ : ∃ φ3, φ3 = qm_u (qm_u (qm_u (qm_u (qm_u φ2 26 7 (Int32.ofNat u)) 26 5 0) 26 6 0) 26 8 0) 26 9 (-1) := ⟨_, rfl⟩
  have hrun : ma_run F nR nN nT gg φ (Int32.ofNat g) (Int32.ofNat i) (Int32.ofNat u) = ma_run_L41 F nR nN nT gg F φ3 0 := by
    unfold ma_run
    rw [hfill, e3]
    rfl
  have f3 : rs_fx φ φ3 := by
    intro a j c1 c2
    rw [← b2 a j (by omega), e3]
    unfold qm_u
    repeat' split
    all_goals first | rfl | omega
  have s3 : ∀ j, j < 15 → φ3 27 j = rs_sl Ib Hb g i j := by
    intro j hj
    have : φ3 27 j = φ2 27 j := by rw [e3]; rfl
    rw [this]
    unfold rs_sl
    by_cases c1 : j < Ib.length
    · rw [if_pos c1, b3 j c1]
    · rw [if_neg c1]
      by_cases c2 : 3 ≤ j ∧ j < 3 + Hb.length
      · have := b4 (j - 3) (by omega)
        rw [show 3 + (j - 3) = j by omega] at this
        rw [if_pos c2, this]
      · rw [if_neg c2, b5 j c1 c2, a3 j hj]
  -- the reference's beginning
  obtain ⟨ψ1, m1, m2, m3⟩ := rs_m1 (F := F) (ψ := ψ) (by omega) (Int32.ofNat g) (Int32.ofNat i) F 0 ψ (by omega) (by omega) (fun _ _ _ _ => rfl) (fun j hj => by omega)
  obtain ⟨ψ2, n1, n2, n3, n4⟩ := rs_m2 (F := F) (ψ := ψ) (g := g) (by omega) (fun k x hx => (z1 k x hx).2) w3 w7 y1 hi F 0 ψ1 (by omega) (by omega) m2
  obtain ⟨ψ3, o1, o2, o3, o4⟩ := rs_m3 (F := F) (ψ := ψ) (by omega) (fun k x hx => (z2 k x hx).2) w4 w8 y2 hg F 0 ψ2 (by omega) (by omega) n2
  obtain ⟨m, hm⟩ : ∃ m, F - (Hb.length - 0) = m + 1 := ⟨F - (Hb.length - 0) - 1, by omega⟩
  rw [hm] at o1
  obtain ⟨ψ4, e4⟩ : ∃ ψ4, ψ4 = qm_u (qm_u ψ3 0 37 0) 0 38 (-1) := ⟨_, rfl⟩
  have f4 : rn_fm ψ ψ4 := by rw [e4]; exact (o2.u 0 37 _ (by omega)).u 0 38 _ (by omega)
  have hran : mo_ran F ψ (Int32.ofNat g) (Int32.ofNat i) = qb2 (mg_R F 40 0 ψ4 0 (Int32.ofNat ns)) fun _ φ1 => qb2 (mo_worked F φ1 (φ1 9 0) (φ1 10 0)) fun y1 φ2 => if ¬ (φ2 0 38) = (-1) then some (φ2 0 38, φ2) else if ¬ y1 = 0 then some (0, (qm_u φ2 0 38 0)) else some (1, (qm_u φ2 0 38 1)) := by
    unfold mo_ran
    rw [show mo_ran_L2 F F ψ (Int32.ofNat g) (Int32.ofNat i) 0 = _ from m1, show mo_ran_L23 F F ψ1 (Int32.ofNat g) (Int32.ofNat i) 0 = _ from n1, show mo_ran_L60 F F ψ2 (Int32.ofNat g) 0 = _ from o1]
    conv => lhs; unfold mo_ran_L60
    rw [o2 2 2 (by omega) (by omega), y2, if_pos (by rw [ya_le (by omega) (by omega)]; omega), o2 2 4 (by omega) (by omega), y4, ← e4]
  have s4 : ∀ j, j < 15 → ψ4 17 j = rs_sl Ib Hb g i j := by
    intro j hj
    have : ψ4 17 j = ψ3 17 j := by rw [e4]; rfl
    rw [this]
    unfold rs_sl
    by_cases c1 : j < Ib.length
    · rw [if_pos c1, o4 j (by omega), n3 j (by omega) c1]
    · rw [if_neg c1]
      by_cases c2 : 3 ≤ j ∧ j < 3 + Hb.length
      · rw [if_pos c2, o3 j (by omega) c2.2]
      · rw [if_neg c2, o4 j (by omega), n4 j (by omega), m3 j hj]
  have hS : rn_S φ3 ψ4 0 0 0 φ3 ψ4 := ⟨fun _ _ _ _ => rfl, fun _ _ _ _ => rfl, by rw [e3]; rfl, by rw [e3]; rfl, by rw [e3]; rfl, by rw [e4]; rfl, by rw [e3]; rfl, by rw [e4]; rfl, by omega, fun j hj => by rw [s3 j hj, s4 j hj]⟩
  have hz3 : φ3 14 13 = Int32.ofNat (r + 1) := by rw [f3 14 13 (by omega) (by omega)]; exact x13
  have hmk : φ3 26 1 = (1 <<< ((ψ4 2 0) &&& 31)) - 1 := by rw [f3 26 1 (by omega) (by omega), f4 2 0 (by omega) (by omega), y0]; exact xm
  have hun : φ3 26 7 = Int32.ofNat u := by rw [e3]; rfl
  have hun' : ψ4 0 43 = Int32.ofNat u := by rw [f4 0 43 (by omega) (by omega)]; exact hu
  have hY' : YL (rn_Z φ3 ψ4) (rn_T ψ4) M 0 0 ns 0 p := by
    refine hY.cg (Nat.le_refl _) (fun i _ => ⟨f4 7 i (by omega) (by omega), f4 8 i (by omega) (by omega)⟩) (fun i _ _ => ⟨f3 20 i (by omega) (by omega), f3 21 i (by omega) (by omega), f3 22 i (by omega) (by omega)⟩) (fun s1 _ _ k _ => f4 6 _ (by omega) (by omega))
  have hE' : yl_E (rn_Z φ3 ψ4) M (ψ4 9 0) (ψ4 10 0) p r := by
    rw [f4 9 0 (by omega) (by omega), f4 10 0 (by omega) (by omega)]
    exact hE.cg (Nat.le_refl _) (fun i _ => ⟨f4 7 i (by omega) (by omega), f4 8 i (by omega) (by omega)⟩) (fun i _ _ => ⟨f3 20 i (by omega) (by omega), f3 21 i (by omega) (by omega)⟩)
  obtain ⟨n, hL⟩ := hY'
  obtain ⟨ψ5, e5, hR⟩ := rn_blk (F := F) (nR := nR) (nN := nN) (gg := gg) (by omega) hz3 hT hT2 hM hmk hun hun' hu9 n 0 0 ns 0 p (by omega) hL hns (by omega) 39 F (by omega) (by omega) φ3 ψ4 0 hS
  rw [show mg_R F 40 0 ψ4 0 (Int32.ofNat ns) = _ from rn_mg (d := 39) (s := 0) (e := ns) e5] at hran
  simp only [yb2] at hran
  -- a stop of the component
  have halt : ∀ (mv : Nat) (φ' : qm_F), rx_MV F nR nN nT gg mv φ3 φ' → mv ≤ 199000 → φ' 26 9 ≠ -1 → ma_run_L41 F nR nN nT gg F φ3 0 = some φ' := by
    intro mv φ' hmv hle hne
    have := hmv (F - mv) 0 (by omega)
    rw [show F - mv + mv = F by omega, Nat.zero_add] at this
    rw [show ma_run_L41 F nR nN nT gg F φ3 0 = _ from this]
    obtain ⟨q, hq⟩ : ∃ q, F - mv = q + 1 := ⟨F - mv - 1, by omega⟩
    rw [hq]
    unfold ma_run_L41
    rw [if_neg (by rw [show (1000000 : Int32) = Int32.ofNat 1000000 from rfl, ya_le (by omega) (by omega)]; omega), if_pos hne]
  -- the reference's end when it has stopped
  have stopM : ∀ (ψ' : qm_F) (a b : Int32), ψ' 0 38 ≠ -1 → mo_worked F ψ' a b = some (0, qm_u ψ' 0 36 0) := by
    intro ψ' a b hne
    unfold mo_worked
    obtain ⟨q, hq⟩ : ∃ q, F = q + 1 := ⟨F - 1, by omega⟩
    rw [hq]
    unfold mo_worked_L7 mo_worked_L86
    have hne' : ¬ (qm_u ψ' 0 36 0) 0 38 = -1 := hne
    rw [if_pos hne']
    split
    · rfl
    · rfl
  have fxx : ∀ φ', rn_fx φ3 φ' → rs_fx φ φ' := fun φ' h a j c1 c2 => by rw [h a j (by omega) c2]; exact f3 a j c1 c2
  have fmm : ∀ ψ', rn_fm ψ4 ψ' → rn_fm ψ ψ' := fun ψ' h a j c1 c2 => by rw [h a j c1 c2]; exact f4 a j c1 c2
  rcases hR with ⟨mv, φ5, k5, m5, S5, l1, l2, l3⟩ | ⟨mv, φ5, k5, v5, m5, X5, l1, l2⟩
  · have hk5 := S5.2.2.2.2.2.2.2.2.1
    have f5 := S5.2.1
    rw [f5 9 0 (by omega) (by omega), f5 10 0 (by omega) (by omega)] at hran
    rcases rn_ex (F := F) (nR := nR) (nN := nN) (gg := gg) (by omega) hz3 hT hT2 hM hmk hE' (by omega) S5 with ⟨x, φ6, ψ6, m6, w6', S6, x6', o6⟩ | ⟨mv6, φ6, ψ6, l6, m6, w6', X6⟩
    · obtain ⟨ep, S7⟩ := rn_pop (F := F) (nR := nR) (nN := nN) (nT := nT) (gg := gg) S6 x6' (r + 1)
      have hpf : ma_perform F nR nN nT gg (qm_u φ6 26 6 (Int32.ofNat (r + 1))) 14 (φ3 21 r) (φ3 22 r) = if ¬ x = 0 then some (qm_u (qm_u (qm_u φ6 26 6 (Int32.ofNat (r + 1))) 26 5 0) 26 9 0) else some (qm_u (qm_u (qm_u φ6 26 6 (Int32.ofNat (r + 1))) 26 5 0) 26 9 1) := by
        unfold ma_perform
        rw [if_neg (by decide), if_neg (by decide), if_neg (by decide), if_neg (by decide), if_neg (by decide), if_neg (by decide), if_neg (by decide), if_neg (by decide), if_neg (by decide), if_neg (by decide), if_neg (by decide), if_neg (by decide), if_neg (by decide), if_pos (by decide), ep]
        rfl
      have ho : φ3 20 r = 14 := by rw [f3 20 r (by omega) (by omega)]; exact x20
      rw [w6'] at hran
      simp only [yb2] at hran
      rw [if_neg (by simp [S6.2.2.2.2.2.1])] at hran
      have f7 := S7.1
      have f6 := S6.2.1
      by_cases q : x = 0
      · rw [if_neg (by simp [q])] at hpf hran
        have m7 := rn_mvp hz3 hT hT2 S6 (by omega) ho rfl rfl hpf
        refine ⟨qm_u (qm_u (qm_u φ6 26 6 (Int32.ofNat (r + 1))) 26 5 0) 26 9 1, _, 1, k5, by rw [hrun]; exact halt _ _ ((m5.trans m6).trans m7) (by omega) (by show (1 : Int32) ≠ -1; decide), hran, by omega, rfl, hk5, S7.2.2.2.2.2.2.1, S7.2.2.2.2.2.2.2.1, fun _ j hj => S7.2.2.2.2.2.2.2.2.2 j hj, fxx _ (f7.u 26 9 _ (by omega)), fmm _ (f6.u 0 38 _ (by omega))⟩
      · rw [if_pos q] at hpf hran
        have m7 := rn_mvp hz3 hT hT2 S6 (by omega) ho rfl rfl hpf
        refine ⟨qm_u (qm_u (qm_u φ6 26 6 (Int32.ofNat (r + 1))) 26 5 0) 26 9 0, _, 0, k5, by rw [hrun]; exact halt _ _ ((m5.trans m6).trans m7) (by omega) (by show (0 : Int32) ≠ -1; decide), hran, by omega, rfl, hk5, S7.2.2.2.2.2.2.1, S7.2.2.2.2.2.2.2.1, fun _ j hj => S7.2.2.2.2.2.2.2.2.2 j hj, fxx _ (f7.u 26 9 _ (by omega)), fmm _ (f6.u 0 38 _ (by omega))⟩
    · rw [w6'] at hran
      simp only [yb2] at hran
      obtain ⟨c1, c2, c3, c4, c5, c6, c7, c8⟩ := X6
      rw [if_pos (by rw [c4]; decide), c4] at hran
      exact ⟨φ6, ψ6, 3, k5, by rw [hrun]; exact halt _ _ (m5.trans m6) (by omega) (by rw [c3]; decide), hran, by omega, c3, hk5, c6, c7, fun z => by omega, fxx _ c1, fmm _ c2⟩
  · obtain ⟨c1, c2, c3, c4, c5, c6, c7, c8⟩ := X5
    have hne : ψ5 0 38 ≠ -1 := by rw [c4]; rcases c5 with rfl | rfl | rfl | rfl <;> decide
    have hne2 : φ5 26 9 ≠ -1 := by rw [c3]; rcases c5 with rfl | rfl | rfl | rfl <;> decide
    rw [stopM ψ5 _ _ hne] at hran
    simp only [yb2] at hran
    have hne' : ¬ (qm_u ψ5 0 36 0) 0 38 = -1 := hne
    rw [if_pos hne', show (qm_u ψ5 0 36 0) 0 38 = v5 from c4] at hran
    have hw : ∃ w, w ≤ 5 ∧ 2 ≤ w ∧ v5 = Int32.ofNat w := by
      rcases c5 with h | h | h | h
      · exact ⟨2, by omega, by omega, h⟩
      · exact ⟨3, by omega, by omega, h⟩
      · exact ⟨4, by omega, by omega, h⟩
      · exact ⟨5, by omega, by omega, h⟩
    obtain ⟨w, hw5, hw2, ew⟩ := hw
    rw [ew] at hran c3
    exact ⟨φ5, qm_u ψ5 0 36 0, w, k5, by rw [hrun]; exact halt _ _ m5 (by omega) hne2, hran, hw5, c3, c8, c6, c7, fun z => by omega, fxx _ c1, fmm _ (c2.u 0 36 _ (by omega))⟩
end R5
