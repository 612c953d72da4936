/-! THE RELATION's worlds are closed -/
theorem qE_tab {T : List (List Nat)} {B : Nat} (hT : (T.all fun l => l.all fun x => decide (x ≤ B)) = true) {f : Nat → Nat → Option Nat} {a i r : Nat} (h : (match (T.getD a []).getD i 0 with | 0 => f a i | m + 1 => some m) = some r) : r < B ∨ f a i = some r := by
  split at h
  · exact Or.inr h
  · rename_i m hm
    left
    have hr : m = r := Option.some.inj h
    subst hr
    rw [List.getD_eq_getElem?_getD] at hm
    cases hl : T[a]? with
    | none =>
      rw [List.getD_eq_getElem?_getD, hl] at hm
      simp at hm
    | some l =>
      rw [List.getD_eq_getElem?_getD (l := T), hl] at hm
      cases hx : l[i]? with
      | none => rw [show ((some l).getD [])[i]? = l[i]? from rfl, hx] at hm; simp at hm
      | some x =>
        rw [show ((some l).getD [])[i]? = l[i]? from rfl, hx] at hm
        have hm' : x = m + 1 := hm
        have h1 := List.all_eq_true.mp hT l (List.mem_of_getElem? hl)
        have h2 := of_decide_eq_true (List.all_eq_true.mp h1 x (List.mem_of_getElem? hx))
        omega
theorem qE_c0 (nR : Nat) (φ : qm_F) : qS_wf (c0 nR φ) 8 := by
  refine ⟨fun a j r ha h => ?_, by show 4 ≤ 1000000; omega, rfl⟩
  show r < 4
  rcases qE_tab (T := c4_T) (B := 4) (by decide) (f := c0_R) (show (match (c4_T.getD a []).getD j 0 with | 0 => c0_R a j | m + 1 => some m) = some r from h) with z | z
  · exact z
  · unfold c0_R at z
    split at z
    · split at z
      · have := Option.some.inj z; omega
      · cases z
    · cases z
theorem qE_cs {nR nN nT gg : Nat} {ρ : Nat → Nat → Option Nat} {φ : qm_F} (h : qE_clo ρ) : qS_wf (cs nR nN nT gg [] ρ φ) 8 := ⟨fun a j r ha e => h.1 a j r ha e, by show 34 ≤ 1000000; omega, rfl⟩
theorem qE_mw (ψ : qm_F) : qS_wf (mw ψ) 9 := by
  refine ⟨fun a j r ha h => ?_, by show 22 ≤ 1000000; omega, rfl⟩
  show r < 22
  have h' : mw_R a j = some r := h
  unfold mw_R at h'
  split at h'
  · rw [List.getD_eq_getElem?_getD] at h'
    cases hl : mw_R0[j]? with
    | none => rw [hl] at h'; cases h'
    | some x =>
      rw [hl] at h'
      have hx : x = some r := h'
      have hall : (mw_R0.all fun x => match x with | some y => decide (y < 22) | none => true) = true := by decide
      have := List.all_eq_true.mp hall x (List.mem_of_getElem? hl)
      rw [hx] at this
      exact of_decide_eq_true this
  · cases h'
theorem qE_wf {F : Nat} (hX hM : qm_H) (h : qE_R F hX hM) : qS_wf hX 8 ∧ qS_wf hM 9 := by
  rcases h with ⟨nR, φ, ψ, tn, rfl, rfl, _⟩ | ⟨nR, nN, nT, gg, nI, ρ, φ, ψ, _, _, _, _, _, _, _, _, _, _, _, _, _, _, _, _, rfl, rfl, hρ, _⟩
  · exact ⟨qE_c0 nR φ, qE_mw ψ⟩
  · exact ⟨qE_cs hρ.1, qE_mw ψ⟩
/-! WORLDS PUT TOGETHER -/
section QEW
variable {D : va_G} {G : ClassId × ClassId × ClassId} {z0 : Nat} {H : Heap} {A A1 A2 : Nat → Prop} {ad ad' ad1 ad2 : Nat → Nat} {h h' h1 h2 : qm_H}
theorem qE_We {i k : Nat} {q : Nat × va_E} (hi : i < h'.1.length) (hk : h.1[k]? = h'.1[i]?) (e1 : ad' i = ad k) (e2 : ∀ j, h'.2.1 i j = h.2.1 k j) (e3 : ∀ j, (h'.2.2 i j).map ad' = (h.2.2 k j).map ad) (hq : (qm_W G ad' h')[i]? = some q) : (qm_W G ad h)[k]? = some q := by
  have e := List.getElem?_eq_getElem hi
  have e' : h.1[k]? = some h'.1[i] := hk.trans e
  rw [← hq, qm_W_at e', qm_W_at e, e1]
  have hφ : h'.2.1 i = h.2.1 k := by funext j; exact e2 j
  have hf : ∀ ci, qm_fv ad' h' i ci = qm_fv ad h k ci := by
    intro ci
    funext f
    unfold qm_fv
    have := e3 f
    rw [hφ]
    cases hr : h.2.2 k f <;> cases hr' : h'.2.2 i f <;> rw [hr, hr'] at this <;> simp at this
    simp [this]
  unfold qm_E
  rw [hφ, hf]
theorem qE_Wl {i : Nat} {q : Nat × va_E} (hq : (qm_W G ad h)[i]? = some q) : i < h.1.length ∧ q.1 = ad i := by
  have hi : i < h.1.length := by
    have := (List.getElem?_eq_some_iff.mp hq).1
    unfold qm_W at this
    rwa [List.length_mapIdx] at this
  rw [qm_W_at (List.getElem?_eq_getElem hi)] at hq
  exact ⟨hi, by rw [← Option.some.inj hq]⟩
/-- only the addresses of its own cells -/
theorem qL_C.narrow (C : qL_C D G z0 H A ad h) : qL_C D G z0 H (fun q => A q ∧ ∃ i, i < h.1.length ∧ q = ad i) ad h := by
  obtain ⟨c1, c2, c3⟩ := C
  refine ⟨c1, ⟨c2.1, fun k q hq => ⟨c2.2 k q hq, k, (qE_Wl hq).1, (qE_Wl hq).2⟩⟩, fun q hq => c3 q hq.1⟩
theorem qL_C.inj (C : qL_C D G z0 H A ad h) {i j : Nat} (hi : i < h.1.length) (hj : j < h.1.length) (e : ad i = ad j) : i = j :=
  C.2.1.1 i j _ _ (qm_W_at (List.getElem?_eq_getElem hi)) (qm_W_at (List.getElem?_eq_getElem hj)) e
/-- two worlds of the same heap as one -/
theorem qL_C.join (C1 : qL_C D G z0 H A1 ad1 h1) (C2 : qL_C D G z0 H A2 ad2 h2) (hd : ∀ q, A1 q → ¬ A2 q) (n : Nat) (key : ∀ i q, (qm_W G ad' h')[i]? = some q → (i < n ∧ (qm_W G ad1 h1)[i]? = some q) ∨ (n ≤ i ∧ (qm_W G ad2 h2)[i - n]? = some q)) : qL_C D G z0 H (fun q => A1 q ∨ A2 q) ad' h' := by
  obtain ⟨a1, a2, a3⟩ := C1
  obtain ⟨b1, b2, b3⟩ := C2
  refine ⟨fun k q hq => ?_, ⟨fun i j p q hp hq e => ?_, fun k q hq => ?_⟩, fun q hq => hq.elim (a3 q) (b3 q)⟩
  · rcases key k q hq with ⟨_, z⟩ | ⟨_, z⟩
    · exact a1 k q z
    · exact b1 _ q z
  · rcases key i p hp with ⟨i1, z⟩ | ⟨i1, z⟩
    · rcases key j q hq with ⟨j1, y⟩ | ⟨j1, y⟩
      · exact a2.1 _ _ p q z y e
      · have := a2.2 _ p z
        rw [e] at this
        exact absurd (b2.2 _ q y) (hd _ this)
    · rcases key j q hq with ⟨j1, y⟩ | ⟨j1, y⟩
      · have := a2.2 _ q y
        rw [← e] at this
        exact absurd (b2.2 _ p z) (hd _ this)
      · have := b2.1 _ _ p q z y e
        omega
  · rcases key k q hq with ⟨_, z⟩ | ⟨_, z⟩
    · exact Or.inl (a2.2 _ q z)
    · exact Or.inr (b2.2 _ q z)
end QEW
