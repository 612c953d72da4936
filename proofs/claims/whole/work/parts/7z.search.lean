/-! SEMANTICS: guess, check, go -/
section S6
variable {F nR nN nT gg nI u nK o s tn : Nat} {φ0 ψ0 φ ψ : qm_F} {Vf : Nat → Nat → Nat → Nat} {Hb : List Nat} {pn : Nat → Int32} {kp rk : Nat → Nat} {cur : Int32}
theorem sb_D.w {φ' ψ' : qm_F} {nK' o' s' : Nat} {pn' : Nat → Int32} {kp' : Nat → Nat} {cur' : Int32} (h : sb_D F nR nN nT gg nI φ0 ψ0 Vf Hb rk u nK o s tn pn kp cur φ ψ)
    (gx : ∀ a j, ¬ (30 ≤ a ∧ a ≤ 32) → φ' a j = φ a j) (gm : ∀ a j, ¬ (a = 0 ∧ (j = 0 ∨ j = 41 ∨ j = 42 ∨ j = 44 ∨ j = 45)) → a ≠ 15 → a ≠ 20 → a ≠ 21 → ψ' a j = ψ a j)
    (kx : sx_K nI pn' kp' nK' φ') (km : sm_K nI pn' kp' nK' (fun _ => true) ψ') (ho : φ' 30 6 = Int32.ofNat o' ∧ ψ' 0 44 = Int32.ofNat o' ∧ o' ≤ 2) (hs : φ' 30 7 = Int32.ofNat s' ∧ ψ' 0 41 = Int32.ofNat s' ∧ s' ≤ 2) (hc : φ' 30 8 = cur' ∧ ψ' 0 42 = cur')
    (hl : cur' = -1 ∨ ∃ c, c < gg ∧ cur' = Int32.ofNat c ∧ (s' = 0 → ss_left (Vf u) pn' Hb kp' nK' (fun _ => true) c ≠ 0)) : sb_D F nR nN nT gg nI φ0 ψ0 Vf Hb rk u nK' o' s' tn pn' kp' cur' φ' ψ' := by
  obtain ⟨a1, a2, a3, a4, a5, a6, a7, a8, ⟨b1, b2, b3⟩, ⟨c1, c2, c3⟩, ⟨d1, d2⟩, a12, ⟨e1, ⟨t1, t2, t3⟩, e3⟩⟩ := h
  refine ⟨a1, a2, a3, a4, ⟨⟨fun a j x y => ?_, ?_⟩, ?_, ?_, fun g i x y => ?_⟩, ⟨fun a j x => ?_, ?_, ?_⟩, kx, km, ho, hs, hc, hl, ⟨?_, ⟨?_, ?_, fun j hj => ?_⟩, e3⟩⟩
  · rw [gx a j (by omega)]; exact a5.1.1 a j x y
  · rw [gx _ _ (by omega)]; exact a5.1.2
  · rw [gx _ _ (by omega)]; exact a5.2.1
  · rw [gx _ _ (by omega)]; exact a5.2.2.1
  · rw [gx _ _ (by omega)]; exact a5.2.2.2 g i x y
  · rw [gm a j (by omega) (by omega) (by omega) (by omega)]; exact a6.1 a j x
  · rw [gm _ _ (by omega) (by omega) (by omega) (by omega)]; exact a6.2.1
  · rw [gm 0 40 (by omega) (by omega) (by omega) (by omega)]
    rcases a6.2.2 with z | ⟨z, z'⟩
    · exact Or.inl z
    · exact Or.inr ⟨z, fun g i x y => by rw [gm 19 _ (by omega) (by omega) (by omega) (by omega)]; exact z' g i x y⟩
  · rw [gm _ _ (by omega) (by omega) (by omega) (by omega)]; exact e1
  · rw [gx _ _ (by omega)]; exact t1
  · rw [gm _ _ (by omega) (by omega) (by omega) (by omega)]; exact t2
  · rw [gx _ _ (by omega), gm _ _ (by omega) (by omega) (by omega) (by omega)]; exact t3 j hj
theorem sx_K.st {φ' : qm_F} (h : sx_K nI pn kp nK φ) (g5 : φ' 30 5 = φ 30 5) (g : ∀ a j, a = 31 ∨ a = 32 → φ' a j = φ a j) : sx_K nI pn kp nK φ' :=
  ⟨fun k hk => by rw [g _ _ (by omega)]; exact h.1 k hk, by rw [g5]; exact h.2.1, fun j hj => by rw [g _ _ (by omega)]; exact h.2.2.1 j hj, h.2.2.2⟩
theorem sm_K.st {ψ' : qm_F} {b : Nat → Bool} (h : sm_K nI pn kp nK b ψ) (g5 : ψ' 0 45 = ψ 0 45) (g : ∀ a j, a = 15 ∨ a = 20 ∨ a = 21 → ψ' a j = ψ a j) : sm_K nI pn kp nK b ψ' :=
  ⟨fun k hk => by rw [g _ _ (by omega)]; exact h.1 k hk, by rw [g5]; exact h.2.1, fun j hj => by rw [g _ _ (by omega)]; exact h.2.2.1 j hj, h.2.2.2.1, fun j hj => by rw [g _ _ (by omega)]; exact h.2.2.2.2 j hj⟩
/-- the search is as before but for its kept inputs, its state and its current guess -/
def sb_X (F nR nN nT gg nI : Nat) (φ0 ψ0 : qm_F) (Vf : Nat → Nat → Nat → Nat) (Hb : List Nat) (rk : Nat → Nat) (u o tn : Nat) (pn : Nat → Int32) (φ ψ : qm_F) : Prop := ∃ nK s kp cur, sb_D F nR nN nT gg nI φ0 ψ0 Vf Hb rk u nK o s tn pn kp cur φ ψ
theorem sm_h.f {ψ' ψ : qm_F} (h : sm_f ψ ψ') : ∀ a j, a = 0 → 41 ≤ j → ψ' a j = ψ a j := fun a j x y => h a j (by omega) (by omega)
theorem so_guessing (h : sb_D F nR nN nT gg nI φ0 ψ0 Vf Hb rk u nK o 0 tn pn kp (-1) φ ψ) : ∃ v φ' ψ', se_toGuess F nR nN nT gg φ = some (v, φ') ∧ mo_guessing F ψ = some (v, ψ') ∧ v ≠ -3 ∧ sb_X F nR nN nT gg nI φ0 ψ0 Vf Hb rk u o tn pn φ' ψ' := by
  have H := h.1 u h.2.2.2.1
  have hF := ss_F H
  have hP := h.2.1
  have hR := h.2.2.1
  have hx := h.2.2.2.2.1
  have hm := h.2.2.2.2.2.1
  have hKx := h.2.2.2.2.2.2.1
  have hKm := h.2.2.2.2.2.2.2.1
  have hs := h.2.2.2.2.2.2.2.2.2.1
  have hc := h.2.2.2.2.2.2.2.2.2.2.1
  obtain ⟨φ1, r1, r2, r3⟩ := sx_guessL (b := fun _ => true) H hP hR hx hKx (fun _ _ => rfl)
  obtain ⟨ψ1, r4, r5, r6⟩ := sm_first (w := 0) H hP hR hm hKm (by omega)
  have h1 := h.q r1 r2.g r5 r6.h
  have ex : se_toGuess F nR nN nT gg φ = se_toGuess_L19 F nR nN nT gg F φ 0 := by
    unfold se_toGuess
    rw [hs.1, hc.1, if_neg (by decide), if_pos rfl]
  have em : mo_guessing F ψ = qb2 (some (ss_first gg (ss_of (Vf u) nI pn Hb kp nK (fun _ => true) 0) rk, ψ1)) fun y1 φ1 => if y1 < 0 then some ((-2), (qm_u (qm_u φ1 0 42 y1) 0 41 2)) else some (y1, (qm_u φ1 0 42 y1)) := by
    unfold mo_guessing
    rw [← r4]
    rfl
  rw [ex, r3, em]
  simp only [yb2]
  unfold ss_first
  rw [sp_find_ix]
  cases e : sp_ix (fun k => ss_of (Vf u) nI pn Hb kp nK (fun _ => true) 0 (rk k)) 0 gg with
  | none =>
    refine ⟨-2, qm_u φ1 30 7 2, qm_u (qm_u ψ1 0 42 (-1)) 0 41 2, rfl, rfl, by decide, nK, 2, kp, -1, ?_⟩
    have q1 := h1.2.2.2.2.2.2.2.2
    refine h1.w (fun a j x => ?_) (fun a j x y z w => ?_) (h1.2.2.2.2.2.2.1.st (by simp [qm_u]) (fun a j x => ?_)) (h1.2.2.2.2.2.2.2.1.st (by simp [qm_u]) (fun a j x => ?_)) ⟨by simp [qm_u]; exact q1.1.1, by simp [qm_u]; exact q1.1.2.1, q1.1.2.2⟩ ⟨by simp [qm_u], by simp [qm_u], by omega⟩ ⟨by simp [qm_u]; exact q1.2.2.1.1, by simp [qm_u]⟩ (Or.inl rfl)
    all_goals ((unfold qm_u; repeat' split) <;> first | rfl | omega)
  | some k =>
    obtain ⟨_, k1, k2⟩ := sp_ix_some _ _ _ _ e
    have kk : rk k < gg := (hR k (by omega)).2.2
    have q1 := h1.2.2.2.2.2.2.2.2
    refine ⟨Int32.ofNat (rk k), qm_u φ1 30 8 (Int32.ofNat (rk k)), qm_u ψ1 0 42 (Int32.ofNat (rk k)), rfl, by simp only []; rw [if_neg (ya_lt0 (by omega))], fun z => ya_lt0 (show rk k < 2147483648 by omega) (by rw [z]; decide), nK, 0, kp, Int32.ofNat (rk k), ?_⟩
    refine h1.w (fun a j x => ?_) (fun a j x y z w => ?_) (h1.2.2.2.2.2.2.1.st (by simp [qm_u]) (fun a j x => ?_)) (h1.2.2.2.2.2.2.2.1.st (by simp [qm_u]) (fun a j x => ?_)) ⟨by simp [qm_u]; exact q1.1.1, by simp [qm_u]; exact q1.1.2.1, q1.1.2.2⟩ ⟨by simp [qm_u]; exact q1.2.1.1, by simp [qm_u]; exact q1.2.1.2.1, by omega⟩ ⟨by simp [qm_u], by simp [qm_u]⟩ (Or.inr ⟨rk k, kk, rfl, fun _ => ?_⟩)
    rotate_left 4
    · simpa [ss_of] using k2
    all_goals ((unfold qm_u; repeat' split) <;> first | rfl | omega)
/-- one more input kept; full -/
theorem so_add (h : sb_D F nR nN nT gg nI φ0 ψ0 Vf Hb rk u nK o s tn pn kp cur φ ψ) {i : Nat} (hi : i < nI) (hn : nK < 40) (s' : Nat) (φ' ψ' : qm_F)
    (ex : φ' = qm_u (qm_u φ 32 nK (Int32.ofNat i)) 30 5 (Int32.ofNat (nK + 1)) ∨ φ' = qm_u (qm_u (qm_u φ 32 nK (Int32.ofNat i)) 30 5 (Int32.ofNat (nK + 1))) 30 7 0) (hsx : φ' 30 7 = Int32.ofNat s')
    (em : ψ' = qm_u (qm_u ψ 20 nK (Int32.ofNat i)) 0 45 (Int32.ofNat (nK + 1)) ∨ ψ' = qm_u (qm_u (qm_u ψ 20 nK (Int32.ofNat i)) 0 45 (Int32.ofNat (nK + 1))) 0 41 0) (hsm : ψ' 0 41 = Int32.ofNat s') (hs2 : s' ≤ 2) :
    sb_D F nR nN nT gg nI φ0 ψ0 Vf Hb rk u (nK + 1) o s' tn pn (fun j => if j = nK then i else kp j) (-1) (qm_u φ' 30 8 (-1)) (qm_u ψ' 0 42 (-1)) := by
  have hKx := h.2.2.2.2.2.2.1
  have hKm := h.2.2.2.2.2.2.2.1
  have q1 := h.2.2.2.2.2.2.2.2
  have px : ∀ a j, ¬ (a = 30 ∧ (j = 5 ∨ j = 7 ∨ j = 8)) → ¬ (a = 32 ∧ j = nK) → (qm_u φ' 30 8 (-1)) a j = φ a j := by
    intro a j x y
    rcases ex with rfl | rfl <;> (unfold qm_u; repeat' split) <;> first | rfl | omega
  have pm : ∀ a j, ¬ (a = 0 ∧ (j = 45 ∨ j = 41 ∨ j = 42)) → ¬ (a = 20 ∧ j = nK) → (qm_u ψ' 0 42 (-1)) a j = ψ a j := by
    intro a j x y
    rcases em with rfl | rfl <;> (unfold qm_u; repeat' split) <;> first | rfl | omega
  refine h.w (fun a j x => px a j (by omega) (by omega)) (fun a j x y z w => pm a j (by omega) (by omega)) ⟨fun k hk => ?_, ?_, fun j hj => ?_, by omega⟩ ⟨fun k hk => ?_, ?_, fun j hj => ?_, by omega, fun j hj => ?_⟩ ⟨?_, ?_, q1.1.2.2⟩ ⟨?_, ?_, hs2⟩ ⟨?_, ?_⟩ (Or.inl rfl)
  · rw [px _ _ (by omega) (by omega)]; exact hKx.1 k hk
  · rcases ex with rfl | rfl <;> simp [qm_u]
  · show _ = Int32.ofNat (if j = nK then i else kp j) ∧ (if j = nK then i else kp j) < nI
    by_cases w : j = nK
    · subst w
      rw [if_pos rfl]
      exact ⟨by rcases ex with rfl | rfl <;> simp [qm_u], hi⟩
    · rw [if_neg w, px _ _ (by omega) (by omega)]; exact hKx.2.2.1 j (by omega)
  · rw [pm _ _ (by omega) (by omega)]; exact hKm.1 k hk
  · rcases em with rfl | rfl <;> simp [qm_u]
  · show _ = Int32.ofNat (if j = nK then i else kp j) ∧ (if j = nK then i else kp j) < nI
    by_cases w : j = nK
    · subst w
      rw [if_pos rfl]
      exact ⟨by rcases em with rfl | rfl <;> simp [qm_u], hi⟩
    · rw [if_neg w, pm _ _ (by omega) (by omega)]; exact hKm.2.2.1 j (by omega)
  · rw [pm _ _ (by omega) (by omega)]; exact hKm.2.2.2.2 j hj
  · rw [px _ _ (by omega) (by omega)]; exact q1.1.1
  · rw [pm _ _ (by omega) (by omega)]; exact q1.1.2.1
  · rw [← hsx]; simp [qm_u]
  · rw [← hsm]; simp [qm_u]
  · simp [qm_u]
  · simp [qm_u]

/-- the reference's first refuter, the component's greatest and sharpest -/
def sp_fr (o : Nat) (P : Nat → Bool) (f : Nat → Nat) : Nat → Nat → Int32 → Nat → Int32
  | _, 0, x, _ => x
  | i, n + 1, x, c => if P i = true then (if o = 0 then (if x < 0 then sp_fr o P f (i + 1) n (Int32.ofNat i) 0 else x) else if o = 2 then (if x < 0 ∨ c < f i then sp_fr o P f (i + 1) n (Int32.ofNat i) (f i) else sp_fr o P f (i + 1) n x c) else sp_fr o P f (i + 1) n (Int32.ofNat i) 0) else sp_fr o P f (i + 1) n x c
def sp_dn (P : Nat → Bool) : Nat → Int32
  | 0 => -1
  | n + 1 => if P n = true then Int32.ofNat n else sp_dn P n
def sp_df (P : Nat → Bool) (i : Nat) : Nat → Int32 → Int32
  | 0, x => x
  | n + 1, x => if P (i + n) = true then Int32.ofNat (i + n) else sp_df P i n x
def sp_best (P : Nat → Bool) (f : Nat → Nat) : Nat → Nat → Int32 → Nat → Int32 × Nat
  | _, 0, x, c => (x, c)
  | i, n + 1, x, c => if P i = true ∧ c < f i then sp_best P f (i + 1) n (Int32.ofNat i) (f i) else sp_best P f (i + 1) n x c
theorem sp_df_s (P : Nat → Bool) (i : Nat) : ∀ n x, sp_df P i (n + 1) x = sp_df P (i + 1) n (if P i = true then Int32.ofNat i else x) := by
  intro n
  induction n with
  | zero => intro x; rfl
  | succ n ih =>
    intro x
    show (if P (i + (n + 1)) = true then Int32.ofNat (i + (n + 1)) else sp_df P i (n + 1) x) = (if P (i + 1 + n) = true then Int32.ofNat (i + 1 + n) else sp_df P (i + 1) n _)
    rw [ih, show i + (n + 1) = i + 1 + n by omega]
theorem sp_df0 (P : Nat → Bool) : ∀ n, sp_df P 0 n (-1) = sp_dn P n := by
  intro n
  induction n with
  | zero => rfl
  | succ n ih =>
    show (if P (0 + n) = true then Int32.ofNat (0 + n) else sp_df P 0 n (-1)) = (if P n = true then Int32.ofNat n else sp_dn P n)
    rw [ih, Nat.zero_add]
theorem sp_fr1 (P : Nat → Bool) (f : Nat → Nat) : ∀ n i x, sp_fr 1 P f i n x 0 = sp_df P i n x := by
  intro n
  induction n with
  | zero => intro i x; rfl
  | succ n ih =>
    intro i x
    rw [sp_df_s, ← ih]
    conv => lhs; unfold sp_fr
    by_cases q : P i = true
    · simp [q]
    · simp [q]
theorem sp_fr0s (P : Nat → Bool) (f : Nat → Nat) {x : Int32} (hx : ¬ x < 0) : ∀ n i, sp_fr 0 P f i n x 0 = x := by
  intro n
  induction n with
  | zero => intro i; rfl
  | succ n ih =>
    intro i
    unfold sp_fr
    by_cases q : P i = true
    · simp [q, hx]
    · simp [q, ih]
theorem sp_fr0 (P : Nat → Bool) (f : Nat → Nat) {N : Nat} (hN : N ≤ 128) : ∀ n i, n + i = N → sp_fr 0 P f i n (-1) 0 = sp_find P Int32.ofNat (-1) i n := by
  intro n
  induction n with
  | zero => intro i _; rfl
  | succ n ih =>
    intro i hi
    unfold sp_fr sp_find
    by_cases q : P i = true
    · rw [if_pos q, if_pos rfl, if_pos (by decide), if_pos q, sp_fr0s P f (ya_lt0 (by omega))]
    · rw [if_neg q, if_neg q, ih (i + 1) (by omega)]
theorem sp_fr2 (P : Nat → Bool) (f : Nat → Nat) {N : Nat} (hN : N ≤ 128) : ∀ n i x c, n + i = N → (∀ k, k < N → P k = true → 1 ≤ f k) → ((x = -1 ∧ c = 0) ∨ ∃ k, k < N ∧ x = Int32.ofNat k) → sp_fr 2 P f i n x c = (sp_best P f i n x c).1 := by
  intro n
  induction n with
  | zero => intro i x c _ _ _; rfl
  | succ n ih =>
    intro i x c hi hf hx
    unfold sp_fr sp_best
    by_cases q : P i = true
    · rw [if_pos q, if_neg (by omega), if_pos rfl]
      have := hf i (by omega) q
      by_cases w : c < f i
      · rw [if_pos (Or.inr w), if_pos ⟨q, w⟩]
        exact ih (i + 1) _ _ (by omega) hf (Or.inr ⟨i, by omega, rfl⟩)
      · rcases hx with ⟨_, hx⟩ | ⟨k, hk, rfl⟩
        · omega
        · rw [if_neg (fun z => z.elim (ya_lt0 (by omega)) w), if_neg (fun z => w z.2)]
          exact ih (i + 1) _ _ (by omega) hf (Or.inr ⟨k, hk, rfl⟩)
    · rw [if_neg q, if_neg (fun z => q z.1)]
      exact ih (i + 1) _ _ (by omega) hf hx
theorem sp_best_r (P : Nat → Bool) (f : Nat → Nat) {N : Nat} : ∀ n i x c, n + i = N → ((x = -1 ∧ c = 0) ∨ ∃ k, k < N ∧ x = Int32.ofNat k ∧ c = f k) → (((sp_best P f i n x c).1 = -1 ∧ (sp_best P f i n x c).2 = 0) ∨ ∃ k, k < N ∧ (sp_best P f i n x c).1 = Int32.ofNat k ∧ (sp_best P f i n x c).2 = f k) := by
  intro n
  induction n with
  | zero => intro i x c _ h; exact h
  | succ n ih =>
    intro i x c hi h
    unfold sp_best
    split
    · exact ih (i + 1) _ _ (by omega) (Or.inr ⟨i, by omega, rfl, rfl⟩)
    · exact ih (i + 1) _ _ (by omega) h
theorem sp_cnt1 (P : Nat → Bool) {g : Nat} : ∀ n i, i ≤ g → g < i + n → P g = true → 1 ≤ sp_cnt P i n := by
  intro n
  induction n with
  | zero => intro i h1 h2 _; omega
  | succ n ih =>
    intro i h1 h2 h3
    unfold sp_cnt
    by_cases w : i = g
    · subst w; rw [if_pos h3]; omega
    · have := ih (i + 1) (by omega) (by omega) h3
      omega
theorem sx_great {V : Nat → Nat → Nat} (H : ss_H F nR nN nT gg nI φ0 ψ0 V u) (hI : sx_I gg nI φ0 V u φ) {g : Nat} (hg : g < gg) : ∃ φ', ve_greatestRefuter F nR nN nT gg φ (Int32.ofNat g) = some (sp_dn (fun i => decide (V g i ≠ 0)) nI, φ') ∧ sx_I gg nI φ0 V u φ' ∧ sx_f φ φ' := by
  have hF := ss_F H
  have : ∀ (n m : Nat) (φ1 : qm_F), n ≤ nI → n + 1 ≤ m → sx_I gg nI φ0 V u φ1 → sx_f φ φ1 → ∃ φ', ve_greatestRefuter_L7 F nR nN nT gg m φ1 (Int32.ofNat g) (Int32.ofNat n - 1) = some (sp_dn (fun i => decide (V g i ≠ 0)) n, φ') ∧ sx_I gg nI φ0 V u φ' ∧ sx_f φ φ' := by
    intro n
    induction n with
    | zero =>
      intro m φ1 h1 h2 h3 h4
      obtain ⟨m, rfl⟩ : ∃ z, m = z + 1 := ⟨m - 1, by omega⟩
      unfold ve_greatestRefuter_L7
      rw [if_pos (by decide)]
      exact ⟨φ1, rfl, h3, h4⟩
    | succ n ih =>
      intro m φ1 h1 h2 h3 h4
      obtain ⟨m, rfl⟩ : ∃ z, m = z + 1 := ⟨m - 1, by omega⟩
      obtain ⟨φ2, e1, e2, e3⟩ := sx_verdict H h3 hg (i := n) (by omega)
      unfold ve_greatestRefuter_L7 sp_dn
      rw [ya_sub1 (by omega), Nat.add_sub_cancel, if_neg (ya_lt0 (by omega)), e1]
      simp only [yb2]
      have z := ss_0 (ss_V5 H hg (i := n) (by omega))
      by_cases w : V g n = 0
      · rw [if_pos (z.1.mpr w), if_neg (by simp [w]), show Int32.ofNat n + (-1) = Int32.ofNat n - 1 from (Int32.sub_eq_add_neg _ _).symm]
        exact ih m φ2 (by omega) (by omega) e2 (h4.trans e3)
      · rw [if_neg (fun y => w (z.1.mp y)), if_pos (by simp [w])]
        exact ⟨φ2, rfl, e2, h4.trans e3⟩
  unfold ve_greatestRefuter
  rw [hI.2.1]
  exact this nI F φ (Nat.le_refl _) (by omega) hI (sx_f0 φ)
/-- the component's sharpest among the refuters of a guess, or among all -/
theorem sx_sharp {V : Nat → Nat → Nat} (H : ss_H F nR nN nT gg nI φ0 ψ0 V u) (hI : sx_I gg nI φ0 V u φ) {lf : Nat → Int32} (hm : ∀ g, g < gg → φ 33 g = lf g) {x1 : Int32} (hx1 : x1 = -1 ∨ ∃ g, g < gg ∧ x1 = Int32.ofNat g) (P : Nat → Bool) (hp : ∀ i, P i = (decide (x1 = -1) || decide (V x1.toNatClampNeg i ≠ 0))) : ∃ φ', se_sharpestOf F nR nN nT gg φ x1 = some ((sp_best P (ss_ref V gg lf) 0 nI (-1) 0).1, φ') ∧ sx_I gg nI φ0 V u φ' ∧ sx_f φ φ' := by
  have hF := ss_F H
  have : ∀ (n m i : Nat) (x : Int32) (c : Nat) (φ1 : qm_F), n + i = nI → 2 * n + 1 ≤ m → c ≤ 128 → sx_I gg nI φ0 V u φ1 → sx_f φ φ1 → ∃ φ', se_sharpestOf_L7 F nR nN nT gg m 0 φ1 x1 x (Int32.ofNat c) (Int32.ofNat i) = some ((sp_best P (ss_ref V gg lf) i n x c).1, φ') ∧ sx_I gg nI φ0 V u φ' ∧ sx_f φ φ' := by
    intro n
    induction n with
    | zero =>
      intro m i x c φ1 h1 h2 hc h3 h4
      obtain ⟨m, rfl⟩ : ∃ z, m = z + 1 := ⟨m - 1, by omega⟩
      unfold se_sharpestOf_L7
      rw [if_pos rfl, (sx_gi H h3.1).2]
      simp only [yb1]
      rw [if_pos (by rw [ya_le (by omega) (by omega)]; omega)]
      exact ⟨φ1, rfl, h3, h4⟩
    | succ n ih =>
      intro m i x c φ1 h1 h2 hc h3 h4
      obtain ⟨m, rfl⟩ : ∃ z, m = z + 2 := ⟨m - 2, by omega⟩
      have hi : i < nI := by omega
      -- the count
      have two : ∀ φ2, sx_I gg nI φ0 V u φ2 → sx_f φ φ2 → P i = true → ∃ φ', se_sharpestOf_L7 F nR nN nT gg (m + 1) 1 φ2 x1 x (Int32.ofNat c) (Int32.ofNat i) = some ((sp_best P (ss_ref V gg lf) i (n + 1) x c).1, φ') ∧ sx_I gg nI φ0 V u φ' ∧ sx_f φ φ' := by
        intro φ2 h5 h6 hP
        obtain ⟨φ3, e1, e2, e3⟩ := sx_ref H h5 (lf := lf) (fun g hg => by rw [h6 33 g (by omega) (by omega)]; exact hm g hg) hi
        have hle : ss_ref V gg lf i ≤ 128 := Nat.le_trans (sp_cntle _ _ _) hF.2.1
        unfold se_sharpestOf_L7 sp_best
        rw [if_neg (by omega), e1]
        simp only [yb2]
        by_cases w : c < ss_ref V gg lf i
        · rw [if_neg (by rw [ya_le (by omega) (by omega)]; omega), if_pos ⟨hP, w⟩, ya_add1]
          exact ih m (i + 1) _ _ φ3 (by omega) (by omega) hle e2 (h6.trans e3)
        · rw [if_pos (by rw [ya_le (by omega) (by omega)]; omega), if_neg (fun z => w z.2), ya_add1]
          exact ih m (i + 1) _ _ φ3 (by omega) (by omega) hc e2 (h6.trans e3)
      have hd : se_sharpestOf_L7 F nR nN nT gg (m + 2) 0 φ1 x1 x (Int32.ofNat c) (Int32.ofNat i) = if x1 = (-1) then se_sharpestOf_L7 F nR nN nT gg (m + 1) 1 φ1 x1 x (Int32.ofNat c) (Int32.ofNat i) else qb2 (ve_verdictOf F nR nN nT gg φ1 x1 (Int32.ofNat i)) fun y2 φ1 => if ¬ y2 = 0 then se_sharpestOf_L7 F nR nN nT gg (m + 1) 1 φ1 x1 x (Int32.ofNat c) (Int32.ofNat i) else se_sharpestOf_L7 F nR nN nT gg (m + 1) 0 φ1 x1 x (Int32.ofNat c) (Int32.ofNat (i + 1)) := by
        conv => lhs; unfold se_sharpestOf_L7
        rw [if_pos rfl, (sx_gi H h3.1).2]
        simp only [yb1]
        rw [if_neg (by rw [ya_le (by omega) (by omega)]; omega), ya_add1]
      rw [hd]
      rcases hx1 with rfl | ⟨g, hg, rfl⟩
      · rw [if_pos rfl]
        exact two φ1 h3 h4 (by rw [hp]; simp)
      · have hne : Int32.ofNat g ≠ -1 := fun z => ya_lt0 (show g < 2147483648 by omega) (by rw [z]; decide)
        rw [if_neg hne]
        obtain ⟨φ2, e1, e2, e3⟩ := sx_verdict H h3 hg hi
        rw [e1]
        simp only [yb2]
        have z := ss_0 (ss_V5 H hg hi)
        by_cases w : V g i = 0
        · rw [if_neg (fun y => y (z.1.mpr w))]
          have hP : ¬ P i = true := by rw [hp, ya_nn (by omega)]; simp [hne, w]
          unfold sp_best
          rw [if_neg (fun z => hP z.1)]
          exact ih (m + 1) (i + 1) x c φ2 (by omega) (by omega) hc e2 (h4.trans e3)
        · rw [if_pos (fun y => w (z.1.mp y))]
          exact two φ2 e2 (h4.trans e3) (by rw [hp, ya_nn (by omega)]; simp [w])
  exact this nI F 0 (-1) 0 φ (by omega) (by omega) (by omega) hI (sx_f0 φ)
theorem sm_fr {V : Nat → Nat → Nat} {b : Nat → Bool} (H : ss_H F nR nN nT gg nI φ0 ψ0 V u) (hP : ss_P Hb φ0 ψ0) (hI : sm_I gg nI ψ0 V u ψ) (hK : sm_K nI pn kp nK b ψ) {g : Nat} (hg : g < gg) (h42 : ψ 0 42 = Int32.ofNat g) (h44 : ψ 0 44 = Int32.ofNat o) (ho : o ≤ 2) : ∃ ψ', mo_firstRefuter F ψ = some (sp_fr o (fun i => decide (V g i ≠ 0)) (ss_ref V gg (ss_left V pn Hb kp nK b)) 0 nI (-1) 0, ψ') ∧ sm_I gg nI ψ0 V u ψ' ∧ sm_f ψ ψ' := by
  have hF := ss_F H
  obtain ⟨P, hp⟩ : ∃ P : Nat → Bool, P = fun i => decide (V g i ≠ 0) := ⟨_, rfl⟩
  rw [← hp]
  have : ∀ (n m i : Nat) (x : Int32) (c : Nat) (ψ1 : qm_F), n + i = nI → 3 * n + 1 ≤ m → c ≤ 128 → sm_I gg nI ψ0 V u ψ1 → sm_f ψ ψ1 → ∃ ψ', mo_firstRefuter_L6 F m 0 ψ1 x (Int32.ofNat c) (Int32.ofNat i) 0 = some (sp_fr o P (ss_ref V gg (ss_left V pn Hb kp nK b)) i n x c, ψ') ∧ sm_I gg nI ψ0 V u ψ' ∧ sm_f ψ ψ' := by
    intro n
    induction n with
    | zero =>
      intro m i x c ψ1 h1 h2 hc h3 h4
      obtain ⟨m, rfl⟩ : ∃ z, m = z + 1 := ⟨m - 1, by omega⟩
      unfold mo_firstRefuter_L6
      rw [if_pos rfl, (sm_gi H h3.1).2]
      simp only [yb1]
      rw [if_pos (by rw [ya_le (by omega) (by omega)]; omega)]
      exact ⟨ψ1, rfl, h3, h4⟩
    | succ n ih =>
      intro m i x c ψ1 h1 h2 hc h3 h4
      obtain ⟨m, rfl⟩ : ∃ z, m = z + 3 := ⟨m - 3, by omega⟩
      have hi : i < nI := by omega
      obtain ⟨ψ2, e1, e2, e3⟩ := sm_verdict H h3 hg hi
      have h5 := h4.trans e3
      have o2 : ψ2 0 44 = Int32.ofNat o := by rw [h5 0 44 (by omega) (by omega)]; exact h44
      have z := ss_0 (ss_V5 H hg hi)
      conv => enter [1, ψ', 1, 1]; unfold mo_firstRefuter_L6
      unfold sp_fr
      rw [if_pos rfl, (sm_gi H h3.1).2, h4 0 42 (by omega) (by omega), h42, e1]
      simp only [yb1, yb2]
      rw [if_neg (by rw [ya_le (by omega) (by omega)]; omega), o2]
      by_cases w : V g i = 0
      · rw [if_neg (fun y => y (z.1.mpr w)), if_neg (c := P i = true) (by rw [hp]; simp [w]), ya_add1]
        exact ih (m + 2) (i + 1) x c ψ2 (by omega) (by omega) hc e2 h5
      · rw [if_pos (fun y => w (z.1.mp y)), if_pos (c := P i = true) (by rw [hp]; simp [w])]
        match o, ho with
        | 0, _ =>
          rw [if_neg (by decide), if_pos rfl]
          by_cases q : x < 0
          · rw [if_pos q, if_pos q]
            conv => enter [1, ψ', 1, 1]; unfold mo_firstRefuter_L6
            rw [if_neg (by omega), if_pos rfl, o2, if_pos (by decide)]
            conv => enter [1, ψ', 1, 1]; unfold mo_firstRefuter_L6
            rw [if_neg (by omega), if_neg (by omega), o2, if_pos (by decide), ya_add1]
            exact ih m (i + 1) _ 0 ψ2 (by omega) (by omega) (by omega) e2 h5
          · rw [if_neg q, if_neg q]
            exact ⟨ψ2, rfl, e2, h5⟩
        | 1, _ =>
          rw [if_pos (by decide), if_neg (by decide), if_neg (by decide)]
          conv => enter [1, ψ', 1, 1]; unfold mo_firstRefuter_L6
          rw [if_neg (by omega), if_pos rfl, o2, if_pos (by decide)]
          conv => enter [1, ψ', 1, 1]; unfold mo_firstRefuter_L6
          rw [if_neg (by omega), if_neg (by omega), o2, if_pos (by decide), ya_add1]
          exact ih m (i + 1) _ 0 ψ2 (by omega) (by omega) (by omega) e2 h5
        | 2, _ =>
          rw [if_pos (by decide), if_neg (by decide), if_pos rfl]
          obtain ⟨ψ3, r1, r2, r3⟩ := sm_ref H hP e2 (hK.fr h5) hi
          have o3 : ψ3 0 44 = Int32.ofNat 2 := by rw [r3 0 44 (by omega) (by omega)]; exact o2
          have hle : ss_ref V gg (ss_left V pn Hb kp nK b) i ≤ 128 := Nat.le_trans (sp_cntle _ _ _) hF.2.1
          conv => enter [1, ψ', 1, 1]; unfold mo_firstRefuter_L6
          rw [if_neg (by omega), if_pos rfl, o2, if_neg (by decide), r1]
          simp only [yb2]
          conv => enter [1, ψ', 1, 1]; unfold mo_firstRefuter_L6
          rw [if_neg (by omega), if_neg (by omega), o3, if_neg (by decide), ya_add1]
          by_cases q : x < 0
          · rw [if_pos q, if_pos (Or.inl q)]
            exact ih m (i + 1) _ _ ψ3 (by omega) (by omega) hle r2 (h5.trans r3)
          · rw [if_neg q]
            by_cases q2 : c < ss_ref V gg (ss_left V pn Hb kp nK b) i
            · rw [if_pos (by rw [ya_lt (by omega) (by omega)]; exact q2), if_pos (Or.inr q2)]
              exact ih m (i + 1) _ _ ψ3 (by omega) (by omega) hle r2 (h5.trans r3)
            · rw [if_neg (by rw [ya_lt (by omega) (by omega)]; exact q2), if_neg (fun z => z.elim q q2)]
              exact ih m (i + 1) _ _ ψ3 (by omega) (by omega) hc r2 (h5.trans r3)
  exact this nI F 0 (-1) 0 ψ (by omega) (by omega) (by omega) hI (sm_f0 ψ)

theorem so_checking {c : Nat} (hcg : c < gg) (h : sb_D F nR nN nT gg nI φ0 ψ0 Vf Hb rk u nK o 0 tn pn kp (Int32.ofNat c) φ ψ) : ∃ v φ' ψ', se_toCheck F nR nN nT gg φ = some (v, φ') ∧ mo_checking F ψ = some (v, ψ') ∧ sb_X F nR nN nT gg nI φ0 ψ0 Vf Hb rk u o tn pn φ' ψ' := by
  have H := h.1 u h.2.2.2.1
  have hF := ss_F H
  have hP := h.2.1
  have hx := h.2.2.2.2.1
  have hm := h.2.2.2.2.2.1
  have hKx := h.2.2.2.2.2.2.1
  have hKm := h.2.2.2.2.2.2.2.1
  have ho := h.2.2.2.2.2.2.2.2.1
  have hs := h.2.2.2.2.2.2.2.2.2.1
  have hc := h.2.2.2.2.2.2.2.2.2.2.1
  have hcne : Int32.ofNat c ≠ -1 := fun z => ya_lt0 (show c < 2147483648 by omega) (by rw [z]; decide)
  have hl : ss_left (Vf u) pn Hb kp nK (fun _ => true) c ≠ 0 := by
    rcases h.2.2.2.2.2.2.2.2.2.2.2.1 with z | ⟨c', h1, h2, h3⟩
    · exact absurd z hcne
    · have : c = c' := (ya_eq (by omega) (by omega)).mp h2
      subst this
      exact h3 rfl
  obtain ⟨P, hp⟩ : ∃ P : Nat → Bool, P = fun i => decide (Vf u c i ≠ 0) := ⟨_, rfl⟩
  obtain ⟨f, hf⟩ : ∃ f : Nat → Nat, f = ss_ref (Vf u) gg (ss_left (Vf u) pn Hb kp nK (fun _ => true)) := ⟨_, rfl⟩
  obtain ⟨ψ1, r4, r5, r6⟩ := sm_fr (o := o) H hP hm hKm hcg hc.2 ho.2.1 ho.2.2
  rw [← hp, ← hf] at r4
  have hrange : sp_fr o P f 0 nI (-1) 0 = -1 ∨ ∃ k, k < nI ∧ sp_fr o P f 0 nI (-1) 0 = Int32.ofNat k := by
    have : ∀ n i x c, n + i = nI → (x = -1 ∨ ∃ k, k < nI ∧ x = Int32.ofNat k) → (sp_fr o P f i n x c = -1 ∨ ∃ k, k < nI ∧ sp_fr o P f i n x c = Int32.ofNat k) := by
      intro n
      induction n with
      | zero => intro i x c _ h; exact h
      | succ n ih =>
        intro i x c hi h
        have z : Int32.ofNat i = -1 ∨ ∃ k, k < nI ∧ Int32.ofNat i = Int32.ofNat k := Or.inr ⟨i, by omega, rfl⟩
        unfold sp_fr
        repeat' split
        all_goals first
          | exact ih (i + 1) _ _ (by omega) z
          | exact ih (i + 1) _ _ (by omega) h
          | exact h
    exact this nI 0 (-1) 0 (by omega) (Or.inl rfl)
  have key : ∃ φ1, se_toCheck F nR nN nT gg φ = se_toCheck_L76 F nR nN nT gg φ1 (sp_fr o P f 0 nI (-1) 0) ∧ sx_I gg nI φ0 (Vf u) u φ1 ∧ sx_g φ φ1 := by
    unfold se_toCheck
    rw [hs.1, hc.1, ho.1, if_neg (by decide), if_pos hcne]
    match o, ho.2.2 with
    | 0, _ =>
      obtain ⟨φ1, r1, r2, r3⟩ := sx_least H hx hcg
      rw [if_pos (by decide), if_pos (by decide), r1]
      refine ⟨φ1, ?_, r2, r3.g⟩
      simp only [yb2]
      rw [sp_fr0 P f hF.2.2.1 nI 0 (by omega), hp]
      rfl
    | 1, _ =>
      obtain ⟨φ1, r1, r2, r3⟩ := sx_great H hx hcg
      rw [if_neg (by decide), r1]
      refine ⟨φ1, ?_, r2, r3.g⟩
      simp only [yb2]
      rw [sp_fr1 P f nI 0, sp_df0, hp]
    | 2, _ =>
      obtain ⟨φ1, m1, m2, m3, m4⟩ := sx_mark (b := fun _ => true) H hP hx hKx (fun _ _ => rfl)
      have c8 : φ1 30 8 = Int32.ofNat c := by rw [m3 30 8 (by omega) (by omega) (by omega)]; exact hc.1
      obtain ⟨φ2, r1, r2, r3⟩ := sx_sharp H m2 m4 (x1 := Int32.ofNat c) (Or.inr ⟨c, hcg, rfl⟩) P (fun i => by rw [hp, ya_nn (by omega)]; simp [hcne])
      rw [if_pos (by decide), if_neg (by decide), m1]
      simp only [yb1]
      rw [c8, r1]
      refine ⟨φ2, ?_, r2, m3.trans r3.g⟩
      simp only [yb2]
      rw [sp_fr2 P f hF.2.2.1 nI 0 (-1) 0 (by omega) (fun k hk hpk => by
        rw [hf]
        exact sp_cnt1 _ (g := c) gg 0 (by omega) (by omega) (by rw [hp] at hpk; simp only [decide_eq_true_eq] at hpk; simp [hpk, hl])) (Or.inl ⟨rfl, rfl⟩), hf]
  obtain ⟨φ1, ex, k2, k3⟩ := key
  have h1 := h.q k2 k3 r5 r6.h
  have q1 := h1.2.2.2.2.2.2.2.2
  have n5 : φ1 30 5 = Int32.ofNat nK := h1.2.2.2.2.2.2.1.2.1
  have n45 : ψ1 0 45 = Int32.ofNat nK := h1.2.2.2.2.2.2.2.1.2.1
  have n40 : nK ≤ 40 := h1.2.2.2.2.2.2.1.2.2.2
  rw [ex]
  unfold mo_checking
  rw [r4]
  simp only [yb2]
  unfold se_toCheck_L76
  rcases hrange with z | ⟨k, hk, z⟩
  · rw [z, if_neg (by decide), if_neg (by decide)]
    refine ⟨-2, _, _, rfl, rfl, nK, 1, kp, Int32.ofNat c, ?_⟩
    refine h1.w (fun a j x => ?_) (fun a j x y z w => ?_) (h1.2.2.2.2.2.2.1.st (by simp [qm_u]) (fun a j x => ?_)) (h1.2.2.2.2.2.2.2.1.st (by simp [qm_u]) (fun a j x => ?_)) ⟨by simp [qm_u]; exact q1.1.1, by simp [qm_u]; exact q1.1.2.1, q1.1.2.2⟩ ⟨by simp [qm_u], by simp [qm_u], by omega⟩ ⟨by simp [qm_u]; exact q1.2.2.1.1, by simp [qm_u]; exact q1.2.2.1.2⟩ (Or.inr ⟨c, hcg, rfl, fun z => by omega⟩)
    all_goals ((unfold qm_u; repeat' split) <;> first | rfl | omega)
  · have hkne : Int32.ofNat k ≠ -1 := fun z => ya_lt0 (show k < 2147483648 by omega) (by rw [z]; decide)
    rw [z, if_pos hkne, if_pos (ya_ge0 (by omega)), n45]
    unfold se_addKept
    rw [n5, if_neg (ya_lt0 (by omega))]
    by_cases q : nK < 40
    · rw [if_pos (by rw [show (40 : Int32) = Int32.ofNat 40 from rfl, ya_lt (by omega) (by omega)]; exact q), if_pos (by rw [show (40 : Int32) = Int32.ofNat 40 from rfl, ya_eq (by omega) (by omega)]; omega), ya_in (by omega) q, ya_nn (by omega), ya_add1]
      simp only [yg1, yb2]
      rw [if_pos (by decide)]
      refine ⟨Int32.ofNat k, _, _, rfl, rfl, nK + 1, 0, (fun j => if j = nK then k else kp j), -1, ?_⟩
      exact so_add h1 hk q 0 _ _ (Or.inl rfl) (by simp [qm_u]; exact q1.2.1.1) (Or.inl rfl) (by simp [qm_u]; exact q1.2.1.2.1) (by omega)
    · have e40 : nK = 40 := by omega
      subst e40
      rw [if_neg (by decide), if_neg (by decide)]
      simp only [yb2]
      rw [if_neg (by decide)]
      exact ⟨-3, φ1, ψ1, rfl, rfl, 40, 0, kp, Int32.ofNat c, h1⟩
/-- what an operation that moves the search has shown -/
def sb_do (F nR nN nT gg nI : Nat) (φ0 ψ0 : qm_F) (Vf : Nat → Nat → Nat → Nat) (Hb : List Nat) (rk : Nat → Nat) (tn : Nat) (x y : Option (Int32 × qm_F)) : Prop := ∃ v φ' ψ', x = some (v, φ') ∧ y = some (v, ψ') ∧ ∃ u o pn, sb_X F nR nN nT gg nI φ0 ψ0 Vf Hb rk u o tn pn φ' ψ'
theorem sb_D.x (h : sb_D F nR nN nT gg nI φ0 ψ0 Vf Hb rk u nK o s tn pn kp cur φ ψ) : ∃ u o pn, sb_X F nR nN nT gg nI φ0 ψ0 Vf Hb rk u o tn pn φ ψ := ⟨u, o, pn, nK, s, kp, cur, h⟩
theorem so_guess (h : sb_D F nR nN nT gg nI φ0 ψ0 Vf Hb rk u nK o s tn pn kp cur φ ψ) : sb_do F nR nN nT gg nI φ0 ψ0 Vf Hb rk tn (sf_guess F nR nN nT gg φ) (mo_guess F ψ) := by
  have H := h.1 u h.2.2.2.1
  have hF := ss_F H
  have hs := h.2.2.2.2.2.2.2.2.2.1
  have hc := h.2.2.2.2.2.2.2.2.2.2.1
  have h12 : ψ 0 12 = 1 := h.2.2.2.2.2.2.2.2.2.2.2.2.1
  have h0 := h.th 0
  unfold sf_guess mo_guess
  rw [h12, if_neg (by decide), hs.2.1, hc.2]
  by_cases q : s = 0
  · subst q
    rw [if_neg (by decide)]
    rcases h.2.2.2.2.2.2.2.2.2.2.2.1 with z | ⟨c, h1, h2, _⟩
    · subst z
      rw [if_neg (by decide)]
      obtain ⟨v, φ', ψ', e1, e2, _, e4⟩ := so_guessing h0
      rw [e1, e2]
      exact ⟨v, φ', ψ', rfl, rfl, u, o, pn, e4⟩
    · subst h2
      rw [if_pos (ya_ge0 (by omega))]
      refine ⟨-1, φ, _, ?_, rfl, h0.x⟩
      unfold se_toGuess
      rw [hs.1, hc.1, if_neg (by decide), if_neg (fun z => ya_lt0 (show c < 2147483648 by omega) (by rw [z]; decide))]
      rfl
  · rw [if_pos (by rw [show (0 : Int32) = Int32.ofNat 0 from rfl, ya_eq (by omega) (by omega)]; exact q)]
    refine ⟨-1, φ, _, ?_, rfl, h0.x⟩
    unfold se_toGuess
    rw [hs.1, if_pos (by rw [show (0 : Int32) = Int32.ofNat 0 from rfl, ya_eq (by omega) (by omega)]; exact q)]
    rfl
theorem so_check (h : sb_D F nR nN nT gg nI φ0 ψ0 Vf Hb rk u nK o s tn pn kp cur φ ψ) : sb_do F nR nN nT gg nI φ0 ψ0 Vf Hb rk tn (sf_check F nR nN nT gg φ) (mo_check F ψ) := by
  have H := h.1 u h.2.2.2.1
  have hF := ss_F H
  have hs := h.2.2.2.2.2.2.2.2.2.1
  have hc := h.2.2.2.2.2.2.2.2.2.2.1
  have h12 : ψ 0 12 = 1 := h.2.2.2.2.2.2.2.2.2.2.2.2.1
  have h0 := h.th 0
  unfold sf_check mo_check
  rw [h12, if_neg (by decide), hs.2.1, hc.2]
  by_cases q : s = 0
  · subst q
    rw [if_neg (by decide)]
    rcases h.2.2.2.2.2.2.2.2.2.2.2.1 with z | ⟨c, h1, h2, _⟩
    · subst z
      rw [if_pos (by decide)]
      refine ⟨-1, φ, _, ?_, rfl, h0.x⟩
      unfold se_toCheck
      rw [hs.1, hc.1, if_neg (by decide), if_neg (by decide)]
      rfl
    · subst h2
      rw [if_neg (ya_lt0 (by omega))]
      obtain ⟨v, φ', ψ', e1, e2, e4⟩ := so_checking h1 h0
      rw [e1, e2]
      exact ⟨v, φ', ψ', rfl, rfl, u, o, pn, e4⟩
  · rw [if_pos (by rw [show (0 : Int32) = Int32.ofNat 0 from rfl, ya_eq (by omega) (by omega)]; exact q)]
    refine ⟨-1, φ, _, ?_, rfl, h0.x⟩
    unfold se_toCheck
    rw [hs.1, if_pos (by rw [show (0 : Int32) = Int32.ofNat 0 from rfl, ya_eq (by omega) (by omega)]; exact q)]
    rfl
theorem so_go (h : sb_D F nR nN nT gg nI φ0 ψ0 Vf Hb rk u nK o s tn pn kp cur φ ψ) (x1 : Int32) : sb_do F nR nN nT gg nI φ0 ψ0 Vf Hb rk tn (sf_go F nR nN nT gg φ x1) (mo_go F ψ x1) := by
  have H := h.1 u h.2.2.2.1
  have hF := ss_F H
  have h12 : ψ 0 12 = 1 := h.2.2.2.2.2.2.2.2.2.2.2.2.1
  have h0 := h.th 0
  have hw : mo_within F (qm_u ψ 0 0 0) (Int32.toInt64 x1) 1 100 = some (if x1 < 1 then 0 else if x1 ≤ 100 then 1 else 0) := by
    rw [show (1 : Int64) = Int32.toInt64 1 from by decide, show (100 : Int64) = Int32.toInt64 100 from by decide, ys_wi]
  unfold sf_go mo_go
  rw [h12, if_neg (c := (1 : Int32) = 0) (by decide), hw]
  simp only [yb1]
  by_cases q1 : x1 < 1
  · simp only [if_pos q1]
    rw [if_neg (by decide)]
    exact ⟨-1, φ, _, rfl, rfl, h0.x⟩
  · simp only [if_neg q1]
    by_cases q2 : x1 ≤ 100
    · simp only [if_pos q2]
      rw [if_pos (by decide)]
      obtain ⟨k, hk, rfl⟩ := ya_nat (x := x1) (fun z => q1 (Int32.lt_trans z (by decide)))
      have k100 : k ≤ 100 := (ya_le (b := 100) hk (by omega)).mp q2
      have main : ∀ (r j m : Nat) (φ ψ : qm_F), r + j = k → 2 * r + 1 ≤ m → sb_X F nR nN nT gg nI φ0 ψ0 Vf Hb rk u o tn pn φ ψ → ∃ v φ' ψ', sf_go_L24 F nR nN nT gg m 0 φ (Int32.ofNat k) (Int32.ofNat j) (Int32.ofNat j) 0 = some (v, φ') ∧ mo_go_L28 F m 0 ψ (Int32.ofNat k) (Int32.ofNat j) 0 = some (v, ψ') ∧ sb_X F nR nN nT gg nI φ0 ψ0 Vf Hb rk u o tn pn φ' ψ' := by
        intro r
        induction r with
        | zero =>
          intro j m φ ψ h1 h2 hX
          obtain ⟨m, rfl⟩ : ∃ z, m = z + 1 := ⟨m - 1, by omega⟩
          refine ⟨Int32.ofNat j, φ, ψ, ?_, ?_, hX⟩
          · unfold sf_go_L24
            rw [if_pos rfl, if_pos (by rw [ya_le (by omega) (by omega)]; omega)]
          · unfold mo_go_L28
            rw [if_pos rfl, if_pos (by rw [ya_le (by omega) (by omega)]; omega)]
        | succ r ih =>
          intro j m φ ψ h1 h2 hX
          obtain ⟨m, rfl⟩ : ∃ z, m = z + 2 := ⟨m - 2, by omega⟩
          -- the second half of a round
          have two : ∀ v φ ψ, sb_X F nR nN nT gg nI φ0 ψ0 Vf Hb rk u o tn pn φ ψ → ∃ v' φ' ψ', sf_go_L24 F nR nN nT gg (m + 1) 1 φ (Int32.ofNat k) (Int32.ofNat j) (Int32.ofNat j) v = some (v', φ') ∧ mo_go_L28 F (m + 1) 1 ψ (Int32.ofNat k) (Int32.ofNat j) v = some (v', ψ') ∧ sb_X F nR nN nT gg nI φ0 ψ0 Vf Hb rk u o tn pn φ' ψ' := by
            intro v φ ψ hX
            unfold sf_go_L24 mo_go_L28
            rw [if_neg (c := (1 : Nat) = 0) (by omega), if_neg (c := (1 : Nat) = 0) (by omega), ya_add1]
            by_cases q : v = -3
            · rw [if_neg (fun z => z q), if_neg (fun z => z q)]
              exact ⟨Int32.ofNat j, φ, ψ, rfl, rfl, hX⟩
            · rw [if_pos q, if_pos q]
              exact ih (j + 1) m φ ψ (by omega) (by omega) hX
          obtain ⟨nK, s, kp, cur, h⟩ := hX
          have hs := h.2.2.2.2.2.2.2.2.2.1
          have hc := h.2.2.2.2.2.2.2.2.2.2.1
          have qk : ¬ Int32.ofNat k ≤ Int32.ofNat j := by rw [ya_le (by omega) (by omega)]; omega
          unfold sf_go_L24 mo_go_L28 se_isSeeking se_hasCurrent
          simp only [if_pos, if_neg qk, hs.1, hs.2.1, hc.1, hc.2]
          by_cases q : s = 0
          · subst q
            have n0 : ¬ (1 : Int32) = 0 := by decide
            simp only [show Int32.ofNat 0 = 0 from rfl, not_true, if_false, yb1, if_neg n0]
            rcases h.2.2.2.2.2.2.2.2.2.2.2.1 with z | ⟨c, h1, h2, _⟩
            · subst z
              obtain ⟨v, φ', ψ', e1, e2, _, e4⟩ := so_guessing h
              have n1 : ¬ (0 : Int32) ≤ -1 := by decide
              simp only [if_true, yb1, if_neg n1, e1, e2, yb2]
              exact two v φ' ψ' e4
            · subst h2
              obtain ⟨v, φ', ψ', e1, e2, e4⟩ := so_checking h1 h
              have n1 : ¬ Int32.ofNat c = -1 := fun z => ya_lt0 (show c < 2147483648 by omega) (by rw [z]; decide)
              simp only [if_neg n1, yb1, if_neg n0, e1, e2, yb2, if_pos (ya_ge0 (show c < 2147483648 by omega))]
              exact two v φ' ψ' e4
          · have q' : ¬ Int32.ofNat s = 0 := by rw [show (0 : Int32) = Int32.ofNat 0 from rfl, ya_eq (by omega) (by omega)]; exact q
            simp only [if_pos q', yb1, if_true]
            exact ⟨Int32.ofNat j, φ, ψ, rfl, rfl, nK, s, kp, cur, h⟩
      obtain ⟨v, φ', ψ', e1, e2, e3⟩ := main k 0 F φ _ (by omega) (by omega) ⟨nK, s, kp, cur, h0⟩
      exact ⟨v, φ', ψ', e1, e2, u, o, pn, e3⟩
    · simp only [if_neg q2]
      rw [if_neg (by decide)]
      exact ⟨-1, φ, _, rfl, rfl, h0.x⟩
end S6
