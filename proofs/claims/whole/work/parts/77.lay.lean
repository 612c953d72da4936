/-! SEMANTICS: how statements lie in the component's code (Z: rows code, value, op, arg, target; S: the reference's statements) -/
def yl_E (Z : qm_F) (M : Nat) (u v : Int32) (p q : Nat) : Prop :=
  ∃ c0 len, c0 + len ≤ M ∧ u = Int32.ofNat c0 ∧ v = Int32.ofNat (c0 + len) ∧ q = p + len ∧ (∀ i, i < len → ye_cm (Z 0 (c0 + i)) (Z 1 (c0 + i)) (Z 2 (p + i)) (Z 3 (p + i))) ∧ ye_hs (Z 0) c0 len 0 = some 1
def yl_k0 (Z S : qm_F) (M s s' p p' : Nat) : Prop := S s 0 = 0 ∧ s' = s + 1 ∧ ∃ r k, yl_E Z M (S s 2) (S s 3) (p + 1) r ∧ Z 2 r = 3 ∧ Z 3 r = Int32.ofNat k ∧ S s 1 = Int32.ofNat k ∧ k < 15 ∧ p' = r + 1
def yl_k1 (Z S : qm_F) (M s s' p p' : Nat) : Prop := S s 0 = 1 ∧ s' = s + 1 ∧ ∃ r, yl_E Z M (S s 2) (S s 3) (p + 1) r ∧ Z 2 r = 13 ∧ p' = r + 1
def yl_k2 (Z S : qm_F) (M : Nat) (B : Nat → Nat → Nat → Nat → Nat → Prop) (br s s' p p' : Nat) : Prop := S s 0 = 2 ∧ br ≤ 3 ∧ ∃ r y e x, yl_E Z M (S s 2) (S s 3) (p + 1) r ∧ Z 2 r = 8 ∧ Z 4 r = Int32.ofNat x ∧ S s 4 = Int32.ofNat e ∧ s + 1 ≤ e ∧ e ≤ s' ∧ r + 1 ≤ y ∧ y ≤ p' ∧ B (br + 1) (s + 1) e (r + 1) y ∧ ((e = s' ∧ x = y ∧ p' = y) ∨ (Z 2 y = 7 ∧ Z 4 y = Int32.ofNat p' ∧ x = y + 1 ∧ y + 1 ≤ p' ∧ B (br + 1) e s' (y + 1) p'))
def yl_k3 (Z S : qm_F) (B : Nat → Nat → Nat → Nat → Nat → Prop) (br s s' p p' : Nat) : Prop := S s 0 = 3 ∧ ∃ y k, 1 ≤ k ∧ k ≤ 9 ∧ S s 1 = Int32.ofNat k ∧ br ≤ 3 ∧ Z 2 (p + 1) = 9 ∧ Z 3 (p + 1) = Int32.ofNat br ∧ Z 4 (p + 1) = Int32.ofNat k ∧ Z 2 (p + 2) = 6 ∧ p + 3 ≤ y ∧ B (br + 1) (s + 1) s' (p + 3) y ∧ Z 2 y = 10 ∧ Z 3 y = Int32.ofNat br ∧ Z 4 y = Int32.ofNat (p + 2) ∧ p' = y + 1
def yl_k4 (Z S : qm_F) (M : Nat) (B : Nat → Nat → Nat → Nat → Nat → Prop) (br s s' p p' : Nat) : Prop := S s 0 = 4 ∧ ∃ r y k, 1 ≤ k ∧ k ≤ 9 ∧ S s 1 = Int32.ofNat k ∧ br ≤ 3 ∧ Z 2 (p + 1) = 11 ∧ Z 3 (p + 1) = Int32.ofNat br ∧ Z 4 (p + 1) = Int32.ofNat k ∧ yl_E Z M (S s 2) (S s 3) (p + 2) r ∧ Z 2 r = 12 ∧ Z 3 r = Int32.ofNat br ∧ Z 4 r = Int32.ofNat p' ∧ Z 2 (r + 1) = 6 ∧ r + 2 ≤ y ∧ B (br + 1) (s + 1) s' (r + 2) y ∧ Z 2 y = 7 ∧ Z 4 y = Int32.ofNat (p + 2) ∧ p' = y + 1
def yl_k5 (Z S : qm_F) (M : Nat) (B : Nat → Nat → Nat → Nat → Nat → Prop) (br s s' p p' : Nat) : Prop := S s 0 = 5 ∧ br ≤ 3 ∧ ∃ r k, yl_E Z M (S s 2) (S s 3) (p + 1) r ∧ Z 2 r = 3 ∧ Z 3 r = Int32.ofNat k ∧ S s 1 = Int32.ofNat k ∧ k < 15 ∧ r + 1 ≤ p' ∧ B (br + 1) (s + 1) s' (r + 1) p'
def yl_st (Z S : qm_F) (M : Nat) (B : Nat → Nat → Nat → Nat → Nat → Prop) (br s s' p p' : Nat) : Prop :=
  Z 2 p = 6 ∧ S s 5 = Int32.ofNat s' ∧ s < s' ∧ p < p' ∧ (yl_k0 Z S M s s' p p' ∨ yl_k1 Z S M s s' p p' ∨ yl_k2 Z S M B br s s' p p' ∨ yl_k3 Z S B br s s' p p' ∨ yl_k4 Z S M B br s s' p p' ∨ yl_k5 Z S M B br s s' p p')
def yl_L (Z S : qm_F) (M : Nat) : Nat → Nat → Nat → Nat → Nat → Nat → Prop
  | 0, _, s, e, p, q => s = e ∧ p = q
  | n + 1, br, s, e, p, q => (s = e ∧ p = q) ∨ ∃ s' p', s' ≤ e ∧ p' ≤ q ∧ yl_st Z S M (yl_L Z S M n) br s s' p p' ∧ yl_L Z S M n br s' e p' q
section Y7
variable {Z S Z' S' : qm_F} {M M' : Nat}
theorem yl_E.cg {u v : Int32} {p q : Nat} (h : yl_E Z M u v p q) (hM : M ≤ M') (h1 : ∀ i, i < M → Z' 0 i = Z 0 i ∧ Z' 1 i = Z 1 i) (h2 : ∀ i, p ≤ i → i < q → Z' 2 i = Z 2 i ∧ Z' 3 i = Z 3 i) : yl_E Z' M' u v p q := by
  obtain ⟨c0, len, a1, a2, a3, a4, a5, a6⟩ := h
  refine ⟨c0, len, by omega, a2, a3, a4, fun i hi => ?_, ?_⟩
  · rw [(h1 _ (by omega)).1, (h1 _ (by omega)).2, (h2 _ (by omega) (by omega)).1, (h2 _ (by omega) (by omega)).2]
    exact a5 i hi
  · rw [← a6]
    exact ye_hs_cg _ _ _ (fun k h3 h4 => (h1 k (by omega)).1)
theorem yl_E.le {u v : Int32} {p q : Nat} (h : yl_E Z M u v p q) : p ≤ q := by
  obtain ⟨c0, len, a1, a2, a3, a4, a5, a6⟩ := h
  omega
theorem yl_st.cg {B B' : Nat → Nat → Nat → Nat → Nat → Prop} {br s s' p p' : Nat} (h : yl_st Z S M B br s s' p p') (hM : M ≤ M') (h1 : ∀ i, i < M → Z' 0 i = Z 0 i ∧ Z' 1 i = Z 1 i) (h2 : ∀ i, p ≤ i → i < p' → Z' 2 i = Z 2 i ∧ Z' 3 i = Z 3 i ∧ Z' 4 i = Z 4 i) (h3 : ∀ k, k < 6 → S' s k = S s k) (hB : ∀ s1 e1 p1 q1, s < s1 → e1 ≤ s' → p < p1 → q1 ≤ p' → B (br + 1) s1 e1 p1 q1 → B' (br + 1) s1 e1 p1 q1) : yl_st Z' S' M' B' br s s' p p' := by
  obtain ⟨a1, a2, a3, a4, a5⟩ := h
  refine ⟨by rw [(h2 p (by omega) a4).1]; exact a1, by rw [h3 5 (by omega)]; exact a2, a3, a4, ?_⟩
  rcases a5 with ⟨c1, c2, r, k, c3, c4, c5, c6, c7, c8⟩ | ⟨c1, c2, r, c3, c4, c5⟩ | ⟨c1, c0, r, y, e, x, c2, c3, c4, c5, c6, c7, c8, c9, c10, c11⟩ | ⟨c1, y, k, c2, c3, c4, c5, c6, c7, c8, c9, c10, c11, c12, c13, c14, c15⟩ | ⟨c1, r, y, k, c2, c3, c4, c5, c6, c7, c8, c9, c10, c11, c12, c13, c14, c15, c16, c17, c18⟩ | ⟨c1, c0, r, k, c2, c3, c4, c5, c6, c7, c8⟩
  · have := c3.le
    refine Or.inl ⟨by rw [h3 0 (by omega)]; exact c1, c2, r, k, ?_, by rw [(h2 r (by omega) (by omega)).1]; exact c4, by rw [(h2 r (by omega) (by omega)).2.1]; exact c5, by rw [h3 1 (by omega)]; exact c6, c7, c8⟩
    rw [h3 2 (by omega), h3 3 (by omega)]
    exact c3.cg hM h1 (fun i x1 x2 => ⟨(h2 i (by omega) (by omega)).1, (h2 i (by omega) (by omega)).2.1⟩)
  · have := c3.le
    refine Or.inr (Or.inl ⟨by rw [h3 0 (by omega)]; exact c1, c2, r, ?_, by rw [(h2 r (by omega) (by omega)).1]; exact c4, c5⟩)
    rw [h3 2 (by omega), h3 3 (by omega)]
    exact c3.cg hM h1 (fun i x1 x2 => ⟨(h2 i (by omega) (by omega)).1, (h2 i (by omega) (by omega)).2.1⟩)
  · have := c2.le
    have hr : r < p' := by omega
    refine Or.inr (Or.inr (Or.inl ⟨by rw [h3 0 (by omega)]; exact c1, c0, r, y, e, x, ?_, by rw [(h2 r (by omega) hr).1]; exact c3, by rw [(h2 r (by omega) hr).2.2]; exact c4, by rw [h3 4 (by omega)]; exact c5, c6, c7, c8, c9, hB _ _ _ _ (by omega) (by omega) (by omega) (by omega) c10, ?_⟩))
    · rw [h3 2 (by omega), h3 3 (by omega)]
      exact c2.cg hM h1 (fun i x1 x2 => ⟨(h2 i (by omega) (by omega)).1, (h2 i (by omega) (by omega)).2.1⟩)
    · rcases c11 with c | ⟨d1, d2, d3, d4, d5⟩
      · exact Or.inl c
      · exact Or.inr ⟨by rw [(h2 y (by omega) (by omega)).1]; exact d1, by rw [(h2 y (by omega) (by omega)).2.2]; exact d2, d3, d4, hB _ _ _ _ (by omega) (by omega) (by omega) (by omega) d5⟩
  · refine Or.inr (Or.inr (Or.inr (Or.inl ⟨by rw [h3 0 (by omega)]; exact c1, y, k, c2, c3, by rw [h3 1 (by omega)]; exact c4, c5, ?_, ?_, ?_, ?_, c10, hB _ _ _ _ (by omega) (by omega) (by omega) (by omega) c11, ?_, ?_, ?_, c15⟩)))
    · rw [(h2 _ (by omega) (by omega)).1]; exact c6
    · rw [(h2 _ (by omega) (by omega)).2.1]; exact c7
    · rw [(h2 _ (by omega) (by omega)).2.2]; exact c8
    · rw [(h2 _ (by omega) (by omega)).1]; exact c9
    · rw [(h2 _ (by omega) (by omega)).1]; exact c12
    · rw [(h2 _ (by omega) (by omega)).2.1]; exact c13
    · rw [(h2 _ (by omega) (by omega)).2.2]; exact c14
  · have := c9.le
    refine Or.inr (Or.inr (Or.inr (Or.inr (Or.inl ⟨by rw [h3 0 (by omega)]; exact c1, r, y, k, c2, c3, by rw [h3 1 (by omega)]; exact c4, c5, ?_, ?_, ?_, ?_, ?_, ?_, ?_, ?_, c14, hB _ _ _ _ (by omega) (by omega) (by omega) (by omega) c15, ?_, ?_, c18⟩))))
    · rw [(h2 _ (by omega) (by omega)).1]; exact c6
    · rw [(h2 _ (by omega) (by omega)).2.1]; exact c7
    · rw [(h2 _ (by omega) (by omega)).2.2]; exact c8
    · rw [h3 2 (by omega), h3 3 (by omega)]
      exact c9.cg hM h1 (fun i x1 x2 => ⟨(h2 i (by omega) (by omega)).1, (h2 i (by omega) (by omega)).2.1⟩)
    · rw [(h2 _ (by omega) (by omega)).1]; exact c10
    · rw [(h2 _ (by omega) (by omega)).2.1]; exact c11
    · rw [(h2 _ (by omega) (by omega)).2.2]; exact c12
    · rw [(h2 _ (by omega) (by omega)).1]; exact c13
    · rw [(h2 _ (by omega) (by omega)).1]; exact c16
    · rw [(h2 _ (by omega) (by omega)).2.2]; exact c17
  · have := c2.le
    refine Or.inr (Or.inr (Or.inr (Or.inr (Or.inr ⟨by rw [h3 0 (by omega)]; exact c1, c0, r, k, ?_, ?_, ?_, by rw [h3 1 (by omega)]; exact c5, c6, c7, hB _ _ _ _ (by omega) (by omega) (by omega) (by omega) c8⟩))))
    · rw [h3 2 (by omega), h3 3 (by omega)]
      exact c2.cg hM h1 (fun i x1 x2 => ⟨(h2 i (by omega) (by omega)).1, (h2 i (by omega) (by omega)).2.1⟩)
    · rw [(h2 _ (by omega) (by omega)).1]; exact c3
    · rw [(h2 _ (by omega) (by omega)).2.1]; exact c4
theorem yl_L.cg : ∀ (n n' br s e p q : Nat), yl_L Z S M n br s e p q → M ≤ M' → n ≤ n' → (∀ i, i < M → Z' 0 i = Z 0 i ∧ Z' 1 i = Z 1 i) → (∀ i, p ≤ i → i < q → Z' 2 i = Z 2 i ∧ Z' 3 i = Z 3 i ∧ Z' 4 i = Z 4 i) → (∀ s1, s ≤ s1 → s1 < e → ∀ k, k < 6 → S' s1 k = S s1 k) → yl_L Z' S' M' n' br s e p q := by
  intro n
  induction n with
  | zero =>
    intro n' br s e p q h _ _ _ _ _
    cases n' with
    | zero => exact h
    | succ n' => exact Or.inl h
  | succ n ih =>
    intro n' br s e p q h hM hn h1 h2 h3
    obtain ⟨n', rfl⟩ : ∃ z, n' = z + 1 := ⟨n' - 1, by omega⟩
    rcases h with h | ⟨s', p', l1, l2, h4, h5⟩
    · exact Or.inl h
    · have l3 := h4.2.2.1
      have l4 := h4.2.2.2.1
      refine Or.inr ⟨s', p', l1, l2, h4.cg hM h1 (fun i x1 x2 => h2 i x1 (by omega)) (fun k hk => h3 s (by omega) (by omega) k hk) ?_, ih n' br s' e p' q h5 hM (by omega) h1 (fun i x1 x2 => h2 i (by omega) x2) (fun s1 x1 x2 => h3 s1 (by omega) x2)⟩
      intro s1 e1 p1 q1 y1 y2 y3 y4 hb
      exact ih n' _ _ _ _ _ hb hM (by omega) h1 (fun i x1 x2 => h2 i (by omega) (by omega)) (fun s1 x1 x2 => h3 s1 (by omega) (by omega))
def YL (Z S : qm_F) (M br s e p q : Nat) : Prop := ∃ n, yl_L Z S M n br s e p q
theorem YL.nil {br s p : Nat} : YL Z S M br s s p p := ⟨0, rfl, rfl⟩
theorem YL.cg {br s e p q : Nat} (h : YL Z S M br s e p q) (hM : M ≤ M') (h1 : ∀ i, i < M → Z' 0 i = Z 0 i ∧ Z' 1 i = Z 1 i) (h2 : ∀ i, p ≤ i → i < q → Z' 2 i = Z 2 i ∧ Z' 3 i = Z 3 i ∧ Z' 4 i = Z 4 i) (h3 : ∀ s1, s ≤ s1 → s1 < e → ∀ k, k < 6 → S' s1 k = S s1 k) : YL Z' S' M' br s e p q := by
  obtain ⟨n, h⟩ := h
  exact ⟨n, yl_L.cg n n br s e p q h hM (Nat.le_refl _) h1 h2 h3⟩
theorem yl_up {n n' br s e p q : Nat} (h : yl_L Z S M n br s e p q) (hn : n ≤ n') : yl_L Z S M n' br s e p q :=
  yl_L.cg n n' br s e p q h (Nat.le_refl _) hn (fun _ _ => ⟨rfl, rfl⟩) (fun _ _ _ => ⟨rfl, rfl, rfl⟩) (fun _ _ _ _ _ => rfl)
/-- the blocks within a statement are laid with one number -/
theorem yl_st.num {br s s' p p' : Nat} (h : yl_st Z S M (YL Z S M) br s s' p p') : ∃ n, yl_st Z S M (yl_L Z S M n) br s s' p p' := by
  obtain ⟨a1, a2, a3, a4, a5⟩ := h
  rcases a5 with a5 | a5 | ⟨c1, c0, r, y, e, x, c2, c3, c4, c5, c6, c7, c8, c9, ⟨n, c10⟩, c11⟩ | ⟨c1, y, k, c2, c3, c4, c5, c6, c7, c8, c9, c10, ⟨n, c11⟩, c12⟩ | ⟨c1, r, y, k, c2, c3, c4, c5, c6, c7, c8, c9, c10, c11, c12, c13, c14, ⟨n, c15⟩, c16⟩ | ⟨c1, c0, r, k, c2, c3, c4, c5, c6, c7, ⟨n, c8⟩⟩
  · exact ⟨0, a1, a2, a3, a4, Or.inl a5⟩
  · exact ⟨0, a1, a2, a3, a4, Or.inr (Or.inl a5)⟩
  · rcases c11 with c | ⟨d1, d2, d3, d4, ⟨m, d5⟩⟩
    · exact ⟨n, a1, a2, a3, a4, Or.inr (Or.inr (Or.inl ⟨c1, c0, r, y, e, x, c2, c3, c4, c5, c6, c7, c8, c9, c10, Or.inl c⟩))⟩
    · exact ⟨n + m, a1, a2, a3, a4, Or.inr (Or.inr (Or.inl ⟨c1, c0, r, y, e, x, c2, c3, c4, c5, c6, c7, c8, c9, yl_up c10 (by omega), Or.inr ⟨d1, d2, d3, d4, yl_up d5 (by omega)⟩⟩))⟩
  · exact ⟨n, a1, a2, a3, a4, Or.inr (Or.inr (Or.inr (Or.inl ⟨c1, y, k, c2, c3, c4, c5, c6, c7, c8, c9, c10, c11, c12⟩)))⟩
  · exact ⟨n, a1, a2, a3, a4, Or.inr (Or.inr (Or.inr (Or.inr (Or.inl ⟨c1, r, y, k, c2, c3, c4, c5, c6, c7, c8, c9, c10, c11, c12, c13, c14, c15, c16⟩))))⟩
  · exact ⟨n, a1, a2, a3, a4, Or.inr (Or.inr (Or.inr (Or.inr (Or.inr ⟨c1, c0, r, k, c2, c3, c4, c5, c6, c7, c8⟩))))⟩
theorem YL.cons {br s s' e p p' q : Nat} (h : yl_st Z S M (YL Z S M) br s s' p p') (h' : YL Z S M br s' e p' q) (h1 : s' ≤ e) (h2 : p' ≤ q) : YL Z S M br s e p q := by
  obtain ⟨n, h⟩ := h.num
  obtain ⟨m, h'⟩ := h'
  refine ⟨n + m + 1, Or.inr ⟨s', p', h1, h2, ?_, yl_up h' (by omega)⟩⟩
  exact h.cg (Nat.le_refl _) (fun _ _ => ⟨rfl, rfl⟩) (fun _ _ _ => ⟨rfl, rfl, rfl⟩) (fun _ _ => rfl) (fun _ _ _ _ _ _ _ _ hb => yl_up hb (by omega))
end Y7
