/-! SEMANTICS: statements, the steps of both parsers -/
def ys_Z (φ ψ : qm_F) : qm_F := fun r i => if r = 0 then ψ 7 (800 + i) else if r = 1 then ψ 8 (800 + i) else if r = 2 then φ 20 i else if r = 3 then φ 21 i else φ 22 i
def ys_T (ψ : qm_F) : qm_F := fun s k => ψ 6 (144 + 6 * s + k)
def ys_S (n cnt : Nat) (b : Nat → Int32) (T : qm_F) (t sz cd ns br lt : Nat) (L : List (Nat × Nat)) (φ ψ : qm_F) : Prop :=
  t < cnt ∧ yp_X n cnt T t sz φ ∧ yp_M n b T t cd ψ ∧ yn_NM cnt T L φ ψ ∧ φ 14 4 = Int32.ofNat ns ∧ ψ 2 11 = Int32.ofNat ns ∧ ψ 0 29 = Int32.ofNat br ∧ ψ 0 30 = Int32.ofNat lt ∧ (∀ p, p ∈ L → p.1 < 12 + lt) ∧ L.length ≤ 12 + lt
def ys_fx (l0 t sz : Nat) (φ φ' : qm_F) : Prop := ∀ a j, ¬ (a = 10 ∧ 3 ≤ j ∧ j ≤ 5) → ¬ (a = 14 ∧ (j = 13 ∨ j = 4)) → ¬ ((a = 20 ∨ a = 21 ∨ a = 22) ∧ sz ≤ j) → ¬ ((a = 6 ∨ a = 9) ∧ t ≤ j) → ¬ (a = 11 ∧ j = 2) → ¬ ((a = 12 ∨ a = 13) ∧ l0 ≤ j) → φ' a j = φ a j
def ys_fm (cd si lt : Nat) (ψ ψ' : qm_F) : Prop := ∀ a j, ¬ (a = 0 ∧ (4 ≤ j ∧ j ≤ 11 ∨ j = 21 ∨ 28 ≤ j ∧ j ≤ 30)) → ¬ ((a = 7 ∨ a = 8) ∧ 800 + cd ≤ j) → ¬ (a = 2 ∧ j = 11) → ¬ (a = 6 ∧ si ≤ j) → ¬ (a = 3 ∧ 27 + lt ≤ j) → ψ' a j = ψ a j
theorem ys_fx.trans {l0 t sz l1 t' sz' : Nat} {φ φ' φ'' : qm_F} (h : ys_fx l0 t sz φ φ') (h' : ys_fx l1 t' sz' φ' φ'') (hl : l0 ≤ l1) (ht : t ≤ t') (hs : sz ≤ sz') : ys_fx l0 t sz φ φ'' :=
  fun a j x1 x2 x3 x4 x5 x6 => (h' a j x1 x2 (by omega) (by omega) x5 (by omega)).trans (h a j x1 x2 x3 x4 x5 x6)
theorem ys_fm.trans {cd si lt cd' si' lt' : Nat} {ψ ψ' ψ'' : qm_F} (h : ys_fm cd si lt ψ ψ') (h' : ys_fm cd' si' lt' ψ' ψ'') (hc : cd ≤ cd') (hs : si ≤ si') (hl : lt ≤ lt') : ys_fm cd si lt ψ ψ'' :=
  fun a j x1 x2 x3 x4 x5 => (h' a j x1 (by omega) x3 (by omega) (by omega)).trans (h a j x1 x2 x3 x4 x5)
/-- what the reference's parser may touch -/
def ys_cf (ψ ψ' : qm_F) : Prop := ∀ a j, ¬ (a = 0 ∧ (4 ≤ j ∧ j ≤ 11 ∨ j = 21 ∨ 28 ≤ j ∧ j ≤ 31)) → ¬ ((a = 7 ∨ a = 8) ∧ 800 ≤ j) → ¬ (a = 2 ∧ 7 ≤ j) → ¬ (a = 6 ∧ 144 ≤ j) → ¬ ((a = 3 ∨ a = 4 ∨ a = 5) ∧ 15 ≤ j) → ¬ ((a = 9 ∨ a = 10) ∧ j = 1) → ψ' a j = ψ a j
theorem ys_cf.trans {ψ ψ' ψ'' : qm_F} (h : ys_cf ψ ψ') (h' : ys_cf ψ' ψ'') : ys_cf ψ ψ'' :=
  fun a j x1 x2 x3 x4 x5 x6 => (h' a j x1 x2 x3 x4 x5 x6).trans (h a j x1 x2 x3 x4 x5 x6)
theorem ys_fm.cf {cd si lt : Nat} {ψ ψ' : qm_F} (h : ys_fm cd si lt ψ ψ') (hs : 144 ≤ si) : ys_cf ψ ψ' :=
  fun a j x1 x2 x3 x4 x5 x6 => h a j (by omega) (by omega) (by omega) (by omega) (by omega)
def ys_lo (φ φ' : qm_F) : Prop := ∀ a j, a < 4 → φ' a j = φ a j
theorem ys_lo.trans {φ φ' φ'' : qm_F} (h : ys_lo φ φ') (h' : ys_lo φ' φ'') : ys_lo φ φ'' := fun a j x => (h' a j x).trans (h a j x)
theorem ys_fx.lo {l0 t sz : Nat} {φ φ' : qm_F} (h : ys_fx l0 t sz φ φ') : ys_lo φ φ' := fun a j x => h a j (by omega) (by omega) (by omega) (by omega) (by omega) (by omega)
def ys_bad (φ ψ φ' ψ' : qm_F) : Prop := φ' 10 5 = 8 * ψ' 0 10 + ψ' 0 9 ∧ ψ' 0 9 ≠ 0 ∧ ys_lo φ φ' ∧ ys_cf ψ ψ'
theorem ys_bad.pre {φ ψ φ1 ψ1 φ' ψ' : qm_F} (h : ys_bad φ1 ψ1 φ' ψ') (h1 : ys_lo φ φ1) (h2 : ys_cf ψ ψ1) : ys_bad φ ψ φ' ψ' := ⟨h.1, h.2.1, h1.trans h.2.2.1, h2.trans h.2.2.2⟩
/-- small steps: registers alone -/
def ys_gx (φ φ' : qm_F) : Prop := ∀ a j, ¬ (a = 10 ∧ 3 ≤ j ∧ j ≤ 5) → φ' a j = φ a j
def ys_gm (ψ ψ' : qm_F) : Prop := ∀ a j, ¬ (a = 0 ∧ (4 ≤ j ∧ j ≤ 11)) → ψ' a j = ψ a j
theorem ys_gx.fx {φ φ' : qm_F} (h : ys_gx φ φ') (l0 t sz : Nat) : ys_fx l0 t sz φ φ' := fun a j x1 _ _ _ _ _ => h a j x1
theorem ys_gm.fm {ψ ψ' : qm_F} (h : ys_gm ψ ψ') (cd si lt : Nat) : ys_fm cd si lt ψ ψ' := fun a j x1 _ _ _ _ => h a j (by omega)
section Y8
variable {F nR n cnt t sz cd ns br lt : Nat} {b : Nat → Int32} {T φ ψ : qm_F} {L : List (Nat × Nat)}
theorem ys_S.mv {φ' ψ' : qm_F} {t' : Nat} (h : ys_S n cnt b T t sz cd ns br lt L φ ψ) (ht : t' < cnt) (ht' : t ≤ t') (hx : φ' 10 3 = Int32.ofNat t') (hm : yk_at T t' ψ') (hf : ψ' 0 9 = 0) (gx : ys_gx φ φ') (gm : ys_gm ψ ψ') : ys_S n cnt b T t' sz cd ns br lt L φ' ψ' := by
  obtain ⟨a1, ⟨b1, b2, b3, b4, b5⟩, ⟨⟨c1, c2⟩, c3, c4, c5, c6⟩, a4, a5, a6, a7, a8, a9, a10⟩ := h
  refine ⟨ht, ⟨hx, by rw [gx _ _ (by omega)]; exact b2, fun s h1 h2 => ?_, fun s hs => by rw [gx _ _ (by omega)]; exact b4 s hs, by rw [gx _ _ (by omega)]; exact b5⟩, ⟨⟨by rw [gm _ _ (by omega)]; exact c1, fun j hj => by rw [gm _ _ (by omega)]; exact c2 j hj⟩, hm, hf, by rw [gm _ _ (by omega)]; exact c5, by rw [gm _ _ (by omega)]; exact c6⟩, a4.fr (fun a j ha => gx _ _ (by omega)) (fun j hj => gm _ _ (by omega)), by rw [gx _ _ (by omega)]; exact a5, by rw [gm _ _ (by omega)]; exact a6, by rw [gm _ _ (by omega)]; exact a7, by rw [gm _ _ (by omega)]; exact a8, a9, a10⟩
  rw [gx _ _ (by omega), gx _ _ (by omega)]
  exact b3 s (by omega) h2
theorem ys_next (hK : yk_TK F n cnt b T) (h : ys_S n cnt b T t sz cd ns br lt L φ ψ) (h0 : T 0 t ≠ 0) (h1 : T 0 t ≠ 1) : ∃ ψ', mo_steps F ψ = some ψ' ∧ ys_S n cnt b T (t + 1) sz cd ns br lt L (qm_u φ 10 3 (Int32.ofNat (t + 1))) ψ' ∧ (∀ a j, ¬ (a = 0 ∧ 4 ≤ j ∧ j ≤ 8) → ψ' a j = ψ a j) := by
  obtain ⟨ψ', e, m, f⟩ := ym_steps hK h.2.2.1 (yk_next hK h.1 h0 h1)
  refine ⟨ψ', e, h.mv (yk_next hK h.1 h0 h1) (by omega) rfl m.2.1 m.2.2.1 ?_ (fun a j hh => f a j (by omega)), f⟩
  intro a j hh
  unfold qm_u
  repeat' split
  all_goals first | rfl | omega
theorem ys_xgx (t' : Nat) : ys_gx φ (qm_u φ 10 3 (Int32.ofNat t')) := by
  intro a j hh
  unfold qm_u
  repeat' split
  all_goals first | rfl | omega
theorem ys_mgm {ψ' : qm_F} (f : ∀ a j, ¬ (a = 0 ∧ 4 ≤ j ∧ j ≤ 8) → ψ' a j = ψ a j) : ys_gm ψ ψ' := fun a j hh => f a j (by omega)
theorem ys_fault (h : ys_S n cnt b T t sz cd ns br lt L φ ψ) {φ' ψ' : qm_F} {f : Int32} (hf : f ≠ 0) (gx : ys_lo φ φ') (gm : ys_cf ψ ψ') : ys_bad φ ψ (qm_u φ' 10 5 (8 * T 1 t + f)) (qm_u (qm_u ψ' 0 9 f) 0 10 (T 1 t)) := by
  refine ⟨by simp [qm_u], by simp [qm_u, hf], ?_, ?_⟩
  · intro a j x
    rw [← gx a j x]
    unfold qm_u
    repeat' split
    all_goals first | rfl | omega
  · intro a j x1 x2 x3 x4 x5 x6
    rw [← gm a j x1 x2 x3 x4 x5 x6]
    unfold qm_u
    repeat' split
    all_goals first | rfl | omega
theorem ys_lo0 (φ : qm_F) : ys_lo φ φ := fun _ _ _ => rfl
theorem ys_cf0 (ψ : qm_F) : ys_cf ψ ψ := fun _ _ _ _ _ _ _ _ => rfl
theorem ys_gm.cf {ψ ψ' : qm_F} (h : ys_gm ψ ψ') : ys_cf ψ ψ' := fun a j x1 _ _ _ _ _ => h a j (by omega)
theorem ys_gx.lo {φ φ' : qm_F} (h : ys_gx φ φ') : ys_lo φ φ' := fun a j x => h a j (by omega)
/-- a sign is taken -/
theorem ys_takes (hK : yk_TK F n cnt b T) (h : ys_S n cnt b T t sz cd ns br lt L φ ψ) (c : Int32) (hc : yk_cls c = 3) :
    (T 0 t = c ∧ ∃ φ' ψ', pa_take F nR n cnt φ c = some (1, φ') ∧ mo_takesSign F ψ c = some (1, ψ') ∧ ys_S n cnt b T (t + 1) sz cd ns br lt L φ' ψ' ∧ ys_gx φ φ' ∧ ys_gm ψ ψ') ∨
    (T 0 t ≠ c ∧ ∃ φ' ψ', pa_take F nR n cnt φ c = some (0, φ') ∧ mo_takesSign F ψ c = some (0, ψ') ∧ ys_bad φ ψ φ' ψ') := by
  have hcn := yk_cn hK
  have hne : ∀ z : Int32, yk_cls z ≠ 3 → c ≠ z := fun z hz e => hz (by rw [← e]; exact hc)
  unfold mo_takesSign
  rw [yx_take h.2.1 h.1 (by omega) (by omega), ym_sign hK h.2.2.1 h.1 c hc]
  simp only [yb1]
  by_cases q : T 0 t = c
  · rw [if_pos q, if_pos q, ym_must1 h.2.2.1]
    simp only [yb2]
    rw [if_pos (by decide)]
    obtain ⟨ψ', e, s, f⟩ := ys_next hK h (by rw [q]; exact hne 0 (by decide)) (by rw [q]; exact hne 1 (by decide))
    rw [e]
    exact Or.inl ⟨q, _, ψ', rfl, rfl, s, ys_xgx _, ys_mgm f⟩
  · rw [if_neg q, if_neg q, ym_must0 h.2.2.1 (by decide)]
    simp only [yb2]
    rw [if_neg (by decide)]
    exact Or.inr ⟨q, _, _, rfl, rfl, ys_fault h (by decide) (ys_lo0 _) (ys_cf0 _)⟩
theorem yk_own_eq {k : Int32} {w : Nat} (hw : w < 13) : yk_own k = Int32.ofNat w ↔ k = Int32.ofNat (128 + w) := by
  have e1 : (128 : Int32).toInt = 128 := rfl
  unfold yk_own
  constructor
  · intro h
    by_cases q : 128 ≤ k
    · rw [if_pos q] at h
      have := (Int32.sub_eq_iff_eq_add.mp h)
      rw [this, ← ya_add, Int32.add_comm]; rfl
    · rw [if_neg q] at h
      exact absurd (show Int32.ofNat w < 0 by rw [← h]; decide) (ya_lt0 (by omega))
  · intro h
    have : (128 : Int32) ≤ k := by
      rw [h]
      exact (ya_le (a := 128) (by omega) (by omega)).mpr (by omega)
    rw [if_pos this, h]
    exact (ya_sub (a := 128 + w) (b := 128) (by omega)).trans (by rw [show 128 + w - 128 = w by omega])
/-- an own word is taken -/
theorem ys_own (hK : yk_TK F n cnt b T) (h : ys_S n cnt b T t sz cd ns br lt L φ ψ) (w : Nat) (hw : w < 13) :
    (T 0 t = Int32.ofNat (128 + w) ∧ ∃ φ' ψ', pa_take F nR n cnt φ (Int32.ofNat (128 + w)) = some (1, φ') ∧ mo_takesOwn F ψ (Int32.ofNat w) = some (1, ψ') ∧ ys_S n cnt b T (t + 1) sz cd ns br lt L φ' ψ' ∧ ys_gx φ φ' ∧ ys_gm ψ ψ') ∨
    (T 0 t ≠ Int32.ofNat (128 + w) ∧ ∃ φ' ψ', pa_take F nR n cnt φ (Int32.ofNat (128 + w)) = some (0, φ') ∧ mo_takesOwn F ψ (Int32.ofNat w) = some (0, ψ') ∧ ys_bad φ ψ φ' ψ') := by
  have hcn := yk_cn hK
  unfold mo_takesOwn mo_takesOwn_L14
  rw [yx_take h.2.1 h.1 (by omega) (by omega), ym_own hK h.2.2.1 h.1]
  simp only [yb1]
  by_cases q : T 0 t = Int32.ofNat (128 + w)
  · rw [if_pos q, if_neg (by rw [(yk_own_eq hw).mpr q]; simp), ym_must1 h.2.2.1]
    simp only [yb2]
    rw [if_pos (by decide)]
    obtain ⟨ψ', e, s, f⟩ := ys_next hK h (by rw [q]; exact fun z => by rw [show (0 : Int32) = Int32.ofNat 0 from rfl, ya_eq (by omega) (by omega)] at z; omega) (by rw [q]; exact fun z => by rw [show (1 : Int32) = Int32.ofNat 1 from rfl, ya_eq (by omega) (by omega)] at z; omega)
    rw [e]
    exact Or.inl ⟨q, _, ψ', rfl, rfl, s, ys_xgx _, ys_mgm f⟩
  · rw [if_neg q, if_pos (fun z => q ((yk_own_eq hw).mp z)), ym_must0 h.2.2.1 (by decide)]
    simp only [yb2]
    rw [if_neg (by decide)]
    exact Or.inr ⟨q, _, _, rfl, rfl, ys_fault h (by decide) (ys_lo0 _) (ys_cf0 _)⟩
theorem ys_tri (a c : Int32) : a < c ∨ a = c ∨ c < a := by
  simp only [Int32.lt_iff_toInt_lt, ← Int32.toInt_inj]
  omega
theorem ys_cmp (a c : Int32) : lg_cmp (Int32.toInt64 a) (Int32.toInt64 c) = if c < a then 1 else if a = c then 0 else -1 := by
  unfold lg_cmp
  simp only [gt_iff_lt, Int64.lt_iff_toInt_lt, ← Int64.toInt_inj, Int32.toInt_toInt64, Int32.lt_iff_toInt_lt, ← Int32.toInt_inj]
theorem ys_wi (x lo hi : Int32) : mo_within F ψ (Int32.toInt64 x) (Int32.toInt64 lo) (Int32.toInt64 hi) = some (if x < lo then 0 else if x ≤ hi then 1 else 0) := by
  have c1 : ∀ a c : Int32, (lg_cmp (Int32.toInt64 a) (Int32.toInt64 c) < 0 ↔ a < c) := by
    intro a c
    rw [ys_cmp]
    rcases ys_tri a c with q | q | q
    · rw [if_neg (Int32.not_lt.mpr (Int32.le_of_lt q)), if_neg (Int32.ne_of_lt q)]
      exact ⟨fun _ => q, fun _ => by decide⟩
    · subst q
      rw [if_neg (fun z => Int32.lt_irrefl z), if_pos rfl]
      exact ⟨fun z => absurd z (by decide), fun z => (Int32.lt_irrefl z).elim⟩
    · rw [if_pos q]
      exact ⟨fun z => absurd z (by decide), fun z => absurd z (Int32.not_lt.mpr (Int32.le_of_lt q))⟩
  have c2 : ∀ a c : Int32, (0 < lg_cmp (Int32.toInt64 a) (Int32.toInt64 c) ↔ ¬ a ≤ c) := by
    intro a c
    rw [ys_cmp, Int32.not_le]
    rcases ys_tri a c with q | q | q
    · rw [if_neg (Int32.not_lt.mpr (Int32.le_of_lt q)), if_neg (Int32.ne_of_lt q)]
      exact ⟨fun z => absurd z (by decide), fun z => absurd z (Int32.not_lt.mpr (Int32.le_of_lt q))⟩
    · subst q
      rw [if_neg (fun z => Int32.lt_irrefl z), if_pos rfl]
      exact ⟨fun z => absurd z (by decide), fun z => (Int32.lt_irrefl z).elim⟩
    · rw [if_pos q]
      exact ⟨fun _ => q, fun _ => by decide⟩
  unfold mo_within
  by_cases q1 : x < lo
  · rw [if_pos ((c1 _ _).mpr q1), if_pos q1]
  · rw [if_neg (fun z => q1 ((c1 _ _).mp z)), if_neg q1]
    by_cases q2 : x ≤ hi
    · rw [if_neg (fun z => (c2 _ _).mp z q2), if_pos q2]
    · rw [if_pos ((c2 _ _).mpr q2), if_neg q2]
theorem yk_cls2 {k : Int32} (h : ¬ k = 48) : ¬ yk_cls k = 2 := by
  unfold yk_cls
  repeat' split
  all_goals first | decide | contradiction
theorem ys_u104 (v : Int32) : ys_gx φ (qm_u φ 10 4 v) := by
  intro a j hh
  unfold qm_u
  repeat' split
  all_goals first | rfl | omega
/-- a number within bounds is taken -/
theorem ys_num (hK : yk_TK F n cnt b T) (h : ys_S n cnt b T t sz cd ns br lt L φ ψ) (lo hi : Nat) (hlo : lo ≤ hi) (hh : hi < 1000) :
    (∃ k φ' ψ', T 0 t = 48 ∧ T 3 t = Int32.ofNat k ∧ lo ≤ k ∧ k ≤ hi ∧ pa_takeNumber F nR n cnt φ (Int32.ofNat lo) (Int32.ofNat hi) = some (1, φ') ∧ mo_takesNumber F ψ (Int32.ofNat lo) (Int32.ofNat hi) = some (1, ψ') ∧ ys_S n cnt b T (t + 1) sz cd ns br lt L φ' ψ' ∧ ys_gx φ φ' ∧ ys_gm ψ ψ' ∧ φ' 10 4 = Int32.ofNat k ∧ ψ' 0 11 = Int32.ofNat k) ∨
    (∃ φ' ψ', pa_takeNumber F nR n cnt φ (Int32.ofNat lo) (Int32.ofNat hi) = some (0, φ') ∧ mo_takesNumber F ψ (Int32.ofNat lo) (Int32.ofNat hi) = some (0, ψ') ∧ ys_bad φ ψ φ' ψ') := by
  have hcn := yk_cn hK
  have h' := h
  obtain ⟨ht, hX, hM, -⟩ := h'
  by_cases q : T 0 t = 48
  · have e7 : ψ 0 7 = T 3 t := hM.2.1.2.2.2.1 q
    obtain ⟨k, hk, e3⟩ : ∃ k, k < 100000 ∧ T 3 t = Int32.ofNat k := by
      obtain ⟨-, -, -, -, -, -, -, -, -, k10, -⟩ := hK
      exact k10 t ht q
    have hX1 : yp_X n cnt T t sz (qm_u φ 10 4 (Int32.ofNat k)) := ⟨hX.1, hX.2.1, hX.2.2.1, hX.2.2.2.1, hX.2.2.2.2⟩
    have hbad : pa_takeNumber_L46 F nR n cnt (qm_u φ 10 4 (Int32.ofNat k)) = some (0, qm_u (qm_u φ 10 4 (Int32.ofNat k)) 10 5 (8 * T 1 t + 4)) := by
      unfold pa_takeNumber_L46
      rw [yx_fail hX1 ht (by omega) (by omega)]
      rfl
    have hx : pa_takeNumber F nR n cnt φ (Int32.ofNat lo) (Int32.ofNat hi) = if lo ≤ k ∧ k ≤ hi then some (1, qm_u (qm_u φ 10 4 (Int32.ofNat k)) 10 3 (Int32.ofNat (t + 1))) else some (0, qm_u (qm_u φ 10 4 (Int32.ofNat k)) 10 5 (8 * T 1 t + 4)) := by
      unfold pa_takeNumber
      rw [yx_kind hX ht (by omega) (by omega)]
      simp only [yb1]
      rw [if_pos q, yx_number hX ht (by omega) (by omega), e3, hX.1, ya_add1]
      simp only [yb1, hbad]
      by_cases q1 : lo ≤ k ∧ k ≤ hi
      · rw [if_pos q1, if_neg (by rw [ya_lt (by omega) (by omega)]; omega), if_pos (by rw [ya_le (by omega) (by omega)]; omega)]
      · rw [if_neg q1]
        split
        · rfl
        · rename_i q2
          rw [ya_lt (by omega) (by omega)] at q2
          rw [if_neg (by rw [ya_le (by omega) (by omega)]; omega)]
    have hm : mo_takesNumber F ψ (Int32.ofNat lo) (Int32.ofNat hi) = if lo ≤ k ∧ k ≤ hi then (qb1 (mo_steps F (qm_u ψ 0 11 (Int32.ofNat k))) fun φ3 => some (1, φ3)) else some (0, qm_u (qm_u ψ 0 9 4) 0 10 (T 1 t)) := by
      unfold mo_takesNumber mo_takesNumber_L14
      rw [hM.2.1.2.2.1, if_neg (by rw [q]; decide), ym_must1 hM]
      simp only [yb2]
      rw [if_neg (by decide), ys_wi, e7, e3]
      simp only [yb1]
      by_cases q1 : lo ≤ k ∧ k ≤ hi
      · rw [if_pos q1, if_neg (by rw [ya_lt (by omega) (by omega)]; omega), if_pos (by rw [ya_le (by omega) (by omega)]; omega), ym_must1 hM]
        simp only [yb2]
        rw [if_pos (by decide), e7, e3]
      · have e2 : (if Int32.ofNat k < Int32.ofNat lo then (0 : Int32) else if Int32.ofNat k ≤ Int32.ofNat hi then 1 else 0) = 0 := by
          split
          · rfl
          · rename_i q2
            rw [ya_lt (by omega) (by omega)] at q2
            rw [if_neg (by rw [ya_le (by omega) (by omega)]; omega)]
        rw [if_neg q1, e2, ym_must0 hM (by decide)]
        rfl
    by_cases q1 : lo ≤ k ∧ k ≤ hi
    · rw [if_pos q1] at hx hm
      have hS1 : ys_S n cnt b T t sz cd ns br lt L (qm_u φ 10 4 (Int32.ofNat k)) (qm_u ψ 0 11 (Int32.ofNat k)) := by
        refine h.mv ht (Nat.le_refl _) hX.1 ⟨hM.2.1.1, hM.2.1.2.1, hM.2.1.2.2.1, hM.2.1.2.2.2.1, hM.2.1.2.2.2.2⟩ hM.2.2.1 (ys_u104 _) ?_
        intro a j hh
        unfold qm_u
        repeat' split
        all_goals first | rfl | omega
      obtain ⟨ψ', e, s, f⟩ := ys_next hK hS1 (by rw [q]; decide) (by rw [q]; decide)
      rw [e] at hm
      refine Or.inl ⟨k, _, ψ', q, e3, q1.1, q1.2, hx, hm, s, ?_, ?_, rfl, by rw [f 0 11 (by omega)]; rfl⟩
      · intro a j hh
        rw [ys_xgx (t + 1) a j hh, ys_u104 _ a j hh]
      · intro a j hh
        rw [f a j (by omega)]
        unfold qm_u
        repeat' split
        all_goals first | rfl | omega
    · rw [if_neg q1] at hx hm
      exact Or.inr ⟨_, _, hx, hm, ys_fault h (by decide) (ys_u104 _).lo (ys_cf0 _)⟩
  · refine Or.inr ⟨_, _, ?_, ?_, ys_fault (f := 1) h (by decide) (ys_lo0 _) (ys_cf0 _)⟩
    · unfold pa_takeNumber
      rw [yx_kind hX ht (by omega) (by omega)]
      simp only [yb1]
      rw [if_neg q, yx_fail hX ht (by omega) (by omega)]
      rfl
    · unfold mo_takesNumber mo_takesNumber_L14
      rw [hM.2.1.2.2.1, if_pos (yk_cls2 q), ym_must0 hM (by decide)]
      rfl
end Y8
