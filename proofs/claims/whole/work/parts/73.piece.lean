/-! SEMANTICS: what parsing a piece of an expression does on both sides -/
def ye_fx (t sz : Nat) (φ φ' : qm_F) : Prop := ∀ a j, ¬ (a = 10 ∧ (j = 3 ∨ j = 5)) → ¬ (a = 14 ∧ j = 13) → ¬ ((a = 20 ∨ a = 21 ∨ a = 22) ∧ sz ≤ j) → ¬ ((a = 6 ∨ a = 9) ∧ t ≤ j) → φ' a j = φ a j
def ye_fm (cd : Nat) (ψ ψ' : qm_F) : Prop := ∀ a j, ¬ (a = 0 ∧ (4 ≤ j ∧ j ≤ 10 ∨ j = 21 ∨ j = 28)) → ¬ ((a = 7 ∨ a = 8) ∧ 800 + cd ≤ j) → ψ' a j = ψ a j
theorem ye_fx.trans {t sz t' sz' : Nat} {φ φ' φ'' : qm_F} (h : ye_fx t sz φ φ') (h' : ye_fx t' sz' φ' φ'') (ht : t ≤ t') (hs : sz ≤ sz') : ye_fx t sz φ φ'' :=
  fun a j x1 x2 x3 x4 => (h' a j x1 x2 (by omega) (by omega)).trans (h a j x1 x2 x3 x4)
theorem ye_fm.trans {cd cd' : Nat} {ψ ψ' ψ'' : qm_F} (h : ye_fm cd ψ ψ') (h' : ye_fm cd' ψ' ψ'') (hs : cd ≤ cd') : ye_fm cd ψ ψ'' :=
  fun a j x1 x2 => (h' a j x1 (by omega)).trans (h a j x1 x2)
def ye_bin (c : Int32) : Prop := c = 124 ∨ c = 94 ∨ c = 38 ∨ c = 61 ∨ c = 60 ∨ c = 43 ∨ c = 45 ∨ c = 42 ∨ c = 47 ∨ c = 37
/-- a row of the reference's code and the component's -/
def ye_cm (c v o a : Int32) : Prop :=
  (c = 0 ∧ o = 1 ∧ a = v) ∨ (c = 1 ∧ o = 2 ∧ a = v ∧ ∃ k, k < 15 ∧ v = Int32.ofNat k) ∨ (c = 2 ∧ o = 4) ∨ (c = 3 ∧ o = 5) ∨ (o = c ∧ ye_bin c)
def ye_h1 (c : Int32) (h : Nat) : Option Nat :=
  if c = 0 ∨ c = 1 then (if h < 64 then some (h + 1) else none)
  else if c = 2 ∨ c = 3 then (if 1 ≤ h then some h else none)
  else (if 2 ≤ h then some (h - 1) else none)
/-- how high the stack is -/
def ye_hs (C : Nat → Int32) : Nat → Nat → Nat → Option Nat
  | _, 0, h => some h
  | a, n + 1, h => match ye_h1 (C a) h with
    | none => none
    | some h' => ye_hs C (a + 1) n h'
theorem ye_hs_app (C : Nat → Int32) : ∀ (n a m h h' : Nat), ye_hs C a n h = some h' → ye_hs C a (n + m) h = ye_hs C (a + n) m h' := by
  intro n
  induction n with
  | zero => intro a m h h' e; simp only [ye_hs, Option.some.injEq] at e; subst e; simp
  | succ n ih =>
    intro a m h h' e
    rw [Nat.succ_add]
    show (match ye_h1 (C a) h with
      | none => none
      | some h' => ye_hs C (a + 1) (n + m) h') = _
    unfold ye_hs at e
    cases q : ye_h1 (C a) h with
    | none => rw [q] at e; cases e
    | some z =>
      rw [q] at e
      simp only at e ⊢
      rw [ih (a + 1) m z h' e]
      have e2 : a + 1 + n = a + (n + 1) := by omega
      rw [e2]
theorem ye_hs_cg {C C' : Nat → Int32} : ∀ (n a h : Nat), (∀ k, a ≤ k → k < a + n → C' k = C k) → ye_hs C' a n h = ye_hs C a n h := by
  intro n
  induction n with
  | zero => intro a h _; rfl
  | succ n ih =>
    intro a h e
    unfold ye_hs
    rw [e a (by omega) (by omega)]
    cases ye_h1 (C a) h with
    | none => rfl
    | some z => exact ih (a + 1) z (fun k h1 h2 => e k (by omega) (by omega))
def ye_sg (φ ψ : qm_F) (sz cd len : Nat) : Prop := ∀ i, i < len → ye_cm (ψ 7 (800 + (cd + i))) (ψ 8 (800 + (cd + i))) (φ 20 (sz + i)) (φ 21 (sz + i))
/-- a token that names a hole is marked -/
def ye_mk (T ψ φ : qm_F) (s : Nat) : Prop :=
  (T 0 s = 97 → (∃ k, k < 5 ∧ ψ 3 (18 + k) = T 4 s ∧ φ 6 s = 2 ∧ φ 9 s = Int32.ofNat k) ∨ ((∀ k, k < 5 → ψ 3 (18 + k) ≠ T 4 s) ∧ φ 6 s = 97)) ∧ (T 0 s ≠ 97 → φ 6 s = T 0 s ∧ φ 9 s = T 3 s)
theorem ye_mk.fr {T ψ φ ψ' φ' : qm_F} {s : Nat} (h : ye_mk T ψ φ s) (h1 : φ' 6 s = φ 6 s) (h2 : φ' 9 s = φ 9 s) (h3 : ∀ k, k < 5 → ψ' 3 (18 + k) = ψ 3 (18 + k)) : ye_mk T ψ' φ' s := by
  obtain ⟨a, c⟩ := h
  refine ⟨fun q => ?_, fun q => by rw [h1, h2]; exact c q⟩
  rcases a q with ⟨k, k1, k2, k3, k4⟩ | ⟨k1, k2⟩
  · exact Or.inl ⟨k, k1, by rw [h3 k k1]; exact k2, by rw [h1]; exact k3, by rw [h2]; exact k4⟩
  · exact Or.inr ⟨fun k hk => by rw [h3 k hk]; exact k1 k hk, by rw [h1]; exact k2⟩
/-- from token t0 to t: len rows more, k values more on the stack, w needed -/
def ye_ac (n cnt : Nat) (b : Nat → Int32) (T : qm_F) (w k op : Nat) (φ0 ψ0 : qm_F) (t0 sz cd : Nat) (φ ψ : qm_F) (t len : Nat) : Prop :=
  t0 ≤ t ∧ t < cnt ∧ yp_X n cnt T t (sz + len) φ ∧ yp_M n b T t (cd + len) ψ ∧ ψ 0 28 = Int32.ofNat op ∧ ye_fx t0 sz φ0 φ ∧ ye_fm cd ψ0 ψ ∧ ye_sg φ ψ sz cd len ∧
  (∀ h, h + w ≤ 64 → ye_hs (fun i => ψ 7 (800 + i)) cd len h = some (h + k)) ∧ (∀ s, t0 ≤ s → s < t → ye_mk T ψ0 φ s)
section Y3
variable {F nR n cnt t sz cd w k op len : Nat} {b : Nat → Int32} {T φ ψ φ0 ψ0 : qm_F} {L : List (Nat × Nat)} {t0 : Nat}
theorem ye_refl (h1 : yp_X n cnt T t sz φ) (h2 : yp_M n b T t cd ψ) (h3 : ψ 0 28 = Int32.ofNat op) (ht : t < cnt) : ye_ac n cnt b T 0 0 op φ ψ t sz cd φ ψ t 0 :=
  ⟨Nat.le_refl _, ht, h1, h2, h3, fun _ _ _ _ _ _ => rfl, fun _ _ _ _ => rfl, fun i hi => by omega, fun h _ => rfl, fun s h1 h2 => by omega⟩
theorem ye_trans {w2 W op2 t2 len2 : Nat} {φ2 ψ2 : qm_F} (h : ye_ac n cnt b T w k op φ0 ψ0 t0 sz cd φ ψ t len) (h' : ye_ac n cnt b T w2 1 op2 φ ψ t (sz + len) (cd + len) φ2 ψ2 t2 len2) (hw : w ≤ W) (hw2 : k + w2 ≤ W) : ye_ac n cnt b T W (k + 1) op2 φ0 ψ0 t0 sz cd φ2 ψ2 t2 (len + len2) := by
  obtain ⟨a1, a2, a3, a4, a5, a6, a7, a8, a9, a10⟩ := h
  obtain ⟨b1, b2, b3, b4, b5, b6, b7, b8, b9, b10⟩ := h'
  refine ⟨by omega, b2, by rw [← Nat.add_assoc]; exact b3, by rw [← Nat.add_assoc]; exact b4, b5, a6.trans b6 a1 (by omega), a7.trans b7 (by omega), ?_, ?_, ?_⟩
  · intro i hi
    by_cases q : i < len
    · have := a8 i q
      rw [b7 7 _ (by omega) (by omega), b7 8 _ (by omega) (by omega), b6 20 _ (by omega) (by omega) (by omega) (by omega), b6 21 _ (by omega) (by omega) (by omega) (by omega)]
      exact this
    · have := b8 (i - len) (by omega)
      rw [show sz + len + (i - len) = sz + i by omega, show cd + len + (i - len) = cd + i by omega] at this
      exact this
  · intro h hh
    have e1 := a9 h (by omega)
    have e2 := b9 (h + k) (by omega)
    rw [ye_hs_app (h' := h + k)]
    · rw [e2]; rfl
    · rw [← e1]
      exact ye_hs_cg _ _ _ (fun i _ hi => b7 7 _ (by omega) (by omega))
  · intro s h1 h2
    by_cases q : s < t
    · exact (a10 s h1 q).fr (b6 6 s (by omega) (by omega) (by omega) (by omega)) (b6 9 s (by omega) (by omega) (by omega) (by omega)) (fun _ _ => rfl)
    · exact (b10 s (by omega) h2).fr rfl rfl (fun k hk => (a7 3 _ (by omega) (by omega)).symm)
theorem ye_wk {W : Nat} (h : ye_ac n cnt b T w k op φ0 ψ0 t0 sz cd φ ψ t len) (hw : w ≤ W) : ye_ac n cnt b T W k op φ0 ψ0 t0 sz cd φ ψ t len := by
  obtain ⟨a1, a2, a3, a4, a5, a6, a7, a8, a9, a10⟩ := h
  exact ⟨a1, a2, a3, a4, a5, a6, a7, a8, fun h hh => a9 h (by omega), a10⟩
/-- the next token -/
theorem ye_nextG {φ' : qm_F} (hK : yk_TK F n cnt b T) (h : ye_ac n cnt b T w k op φ0 ψ0 t0 sz cd φ ψ t len) (op' : Nat) (h0 : T 0 t ≠ 0) (h1 : T 0 t ≠ 1) (g1 : φ' 10 3 = Int32.ofNat (t + 1)) (gx : ∀ a j, ¬ (a = 10 ∧ j = 3) → ¬ ((a = 6 ∨ a = 9) ∧ j = t) → φ' a j = φ a j) (h9 : ye_mk T ψ0 φ' t) : ∃ ψ', mo_steps F (qm_u ψ 0 28 (Int32.ofNat op')) = some ψ' ∧ ye_ac n cnt b T w k op' φ0 ψ0 t0 sz cd φ' ψ' (t + 1) len := by
  obtain ⟨a1, a2, a3, a4, a5, a6, a7, a8, a9, a10⟩ := h
  have hn := yk_next hK a2 h0 h1
  have hM : yp_M n b T t (cd + len) (qm_u ψ 0 28 (Int32.ofNat op')) := by
    obtain ⟨⟨c1, c2⟩, ⟨d1, d2, d3, d4, d5⟩, c3, c4, c5⟩ := a4
    exact ⟨⟨c1, c2⟩, ⟨d1, d2, d3, d4, d5⟩, c3, c4, c5⟩
  obtain ⟨ψ', e, m, f⟩ := ym_steps hK hM hn
  have g : ∀ a j, ¬ (a = 0 ∧ (4 ≤ j ∧ j ≤ 8 ∨ j = 28)) → ψ' a j = ψ a j := by
    intro a j hh
    rw [f a j (by omega)]
    unfold qm_u
    split
    · split
      · omega
      · rfl
    · rfl
  refine ⟨ψ', e, by omega, hn, ?_, m, ?_, ?_, ?_, ?_, ?_, ?_⟩
  · obtain ⟨c1, c2, c3, c4, c5⟩ := a3
    refine ⟨g1, by rw [gx 4 5 (by omega) (by omega)]; exact c2, fun s h1 h2 => ?_, fun s hs => by rw [gx 7 s (by omega) (by omega)]; exact c4 s hs, by rw [gx 14 13 (by omega) (by omega)]; exact c5⟩
    rw [gx 6 s (by omega) (by omega), gx 9 s (by omega) (by omega)]
    exact c3 s (by omega) h2
  · rw [f 0 28 (by omega)]; rfl
  · intro a j x1 x2 x3 x4
    rw [gx a j (by omega) (by omega)]; exact a6 a j x1 x2 x3 x4
  · intro a j x1 x2
    rw [g a j (by omega)]; exact a7 a j x1 x2
  · intro i hi
    rw [g 7 _ (by omega), g 8 _ (by omega), gx 20 _ (by omega) (by omega), gx 21 _ (by omega) (by omega)]
    exact a8 i hi
  · intro h hh
    rw [← a9 h hh]
    exact ye_hs_cg _ _ _ (fun i _ _ => g 7 _ (by omega))
  · intro s h1' h2
    by_cases q : s < t
    · exact (a10 s h1' q).fr (gx 6 s (by omega) (by omega)) (gx 9 s (by omega) (by omega)) (fun _ _ => rfl)
    · have : s = t := by omega
      subst this
      exact h9
theorem ye_next (hK : yk_TK F n cnt b T) (h : ye_ac n cnt b T w k op φ0 ψ0 t0 sz cd φ ψ t len) (op' : Nat) (h0 : T 0 t ≠ 0) (h1 : T 0 t ≠ 1) (h9 : T 0 t = 97 → ye_mk T ψ0 φ t) : ∃ ψ', mo_steps F (qm_u ψ 0 28 (Int32.ofNat op')) = some ψ' ∧ ye_ac n cnt b T w k op' φ0 ψ0 t0 sz cd (qm_u φ 10 3 (Int32.ofNat (t + 1))) ψ' (t + 1) len := by
  refine ye_nextG hK h op' h0 h1 rfl ?_ ?_
  · intro a j hh _
    unfold qm_u
    split
    · split
      · omega
      · rfl
    · rfl
  · by_cases q9 : T 0 t = 97
    · exact (h9 q9).fr rfl rfl (fun _ _ => rfl)
    · exact ⟨fun z => absurd z q9, fun _ => h.2.2.1.2.2.1 t (Nat.le_refl _) h.2.1⟩
theorem ye_op0 (h : ye_ac n cnt b T w k op φ0 ψ0 t0 sz cd φ ψ t len) : qm_u ψ 0 28 (Int32.ofNat op) = ψ := by
  funext a j
  unfold qm_u
  split
  · split
    · rename_i p q; rw [p, q]; exact h.2.2.2.2.1.symm
    · rfl
  · rfl
theorem ye_next' (hK : yk_TK F n cnt b T) (h : ye_ac n cnt b T w k op φ0 ψ0 t0 sz cd φ ψ t len) (h0 : T 0 t ≠ 0) (h1 : T 0 t ≠ 1) (h9 : T 0 t = 97 → ye_mk T ψ0 φ t) : ∃ ψ', mo_steps F ψ = some ψ' ∧ ye_ac n cnt b T w k op φ0 ψ0 t0 sz cd (qm_u φ 10 3 (Int32.ofNat (t + 1))) ψ' (t + 1) len := by
  have := ye_next hK h op h0 h1 h9
  rwa [ye_op0 h] at this
/-- a row of code on both sides -/
theorem ye_emit {o a c v : Int32} {k' W : Nat} (h : ye_ac n cnt b T w k op φ0 ψ0 t0 sz cd φ ψ t len) (hs : sz + len < cnt) (hc : cnt ≤ 801) (hcd : cd + len < 800) (hm : ye_cm c v o a) (hw : w ≤ W) (hh : ∀ h, h + W ≤ 64 → ye_h1 c (h + k) = some (h + k')) (nR : Nat) : ∃ φ' ψ', pr_emit F nR n cnt φ o a 0 = some (Int32.ofNat (sz + len), φ') ∧ mo_codes F ψ c v = some ψ' ∧ ye_ac n cnt b T W k' op φ0 ψ0 t0 sz cd φ' ψ' t (len + 1) := by
  obtain ⟨a1, a2, a3, a4, a5, a6, a7, a8, a9, a10⟩ := h
  refine ⟨_, _, yx_emit a3 hs hc o a 0, ym_codes a4 hcd c v, a1, a2, ?_, ?_, a5, ?_, ?_, ?_, ?_, ?_⟩
  · obtain ⟨c1, c2, c3, c4, c5⟩ := a3
    exact ⟨c1, c2, c3, c4, rfl⟩
  · obtain ⟨c1, c2, c3, c4, c5⟩ := a4
    exact ⟨c1, c2, c3, c4, rfl⟩
  · intro x j x1 x2 x3 x4
    rw [← a6 x j x1 x2 x3 x4]
    unfold qm_u
    repeat' split
    all_goals first | rfl | omega
  · intro x j x1 x2
    rw [← a7 x j x1 x2]
    unfold qm_u
    repeat' split
    all_goals first | rfl | omega
  · intro i hi
    by_cases q : i = len
    · subst q
      simp only [qm_u, if_true]
      exact hm
    · have := a8 i (by omega)
      simp only [qm_u]
      simpa [q] using this
  · intro h hhh
    have e1 := a9 h (by omega)
    rw [ye_hs_app (h' := h + k)]
    · have : (qm_u (qm_u (qm_u ψ 7 (800 + (cd + len)) c) 8 (800 + (cd + len)) v) 0 21 (Int32.ofNat (cd + len + 1))) 7 (800 + (cd + len)) = c := by simp [qm_u]
      unfold ye_hs
      simp only [this]
      rw [hh h hhh]
      rfl
    · rw [← e1]
      refine ye_hs_cg _ _ _ (fun i _ hi => ?_)
      have : i ≠ cd + len := by omega
      simp [qm_u, this]
  · intro s h1 h2
    exact (a10 s h1 h2).fr rfl rfl (fun _ _ => rfl)
/-- a fault: both sides tell the same -/
def ye_bad (t sz cd : Nat) (φ ψ φ' ψ' : qm_F) : Prop := φ' 10 5 = 8 * ψ' 0 10 + ψ' 0 9 ∧ ψ' 0 9 ≠ 0 ∧ ye_fx t sz φ φ' ∧ ye_fm cd ψ ψ'
theorem ye_bad.trans {φ2 ψ2 : qm_F} (h : ye_ac n cnt b T w k op φ0 ψ0 t0 sz cd φ ψ t len) (h' : ye_bad t (sz + len) (cd + len) φ ψ φ2 ψ2) : ye_bad t0 sz cd φ0 ψ0 φ2 ψ2 := by
  obtain ⟨a1, a2, a3, a4, a5, a6, a7, a8, a9, a10⟩ := h
  obtain ⟨b1, b2, b3, b4⟩ := h'
  exact ⟨b1, b2, a6.trans b3 a1 (by omega), a7.trans b4 (by omega)⟩
theorem ye_fault (h : ye_ac n cnt b T w k op φ0 ψ0 t0 sz cd φ ψ t len) {f : Int32} (hf : f ≠ 0) : ye_bad t0 sz cd φ0 ψ0 (qm_u φ 10 5 (8 * T 1 t + f)) (qm_u (qm_u ψ 0 9 f) 0 10 (T 1 t)) := by
  obtain ⟨a1, a2, a3, a4, a5, a6, a7, a8, a9, a10⟩ := h
  refine ⟨by simp [qm_u], by simp [qm_u, hf], ?_, ?_⟩
  · intro x j x1 x2 x3 x4
    rw [← a6 x j x1 x2 x3 x4]
    unfold qm_u
    repeat' split
    all_goals first | rfl | omega
  · intro x j x1 x2
    rw [← a7 x j x1 x2]
    unfold qm_u
    repeat' split
    all_goals first | rfl | omega
end Y3
