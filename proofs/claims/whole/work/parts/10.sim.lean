/-! RUNS: kinds are only added; the contract of a method that the small machine runs to its end -/
theorem qo_goP {pc pc' : Nat} {off : Int} {ls st ls' st' : List Value} {h h' : qm_H} (hs : qm_go pc off ls st h = some (.inl (pc', ls', st', h'))) : ∃ t, h'.1 = h.1 ++ t := by
  obtain ⟨-, -, -, rfl⟩ := qo_go hs
  exact ⟨[], by simp⟩
set_option maxHeartbeats 4000000 in
theorem qm_pre {rt : Nat} {en : qm_e} {pc pc' : Nat} {ls st ls' st' : List Value} {h h' : qm_H} (hs : qm_x rt en pc ls st h = some (.inl (pc', ls', st', h'))) : ∃ t, h'.1 = h.1 ++ t := by
  obtain ⟨i, len, ea, eb, et⟩ := en
  cases i <;> simp only [qm_x, qm_nx] at hs <;> (repeat' split at hs) <;> first
    | exact qo_goP hs
    | (cases hs; exact ⟨[], (List.append_nil _).symm⟩)
    | (cases hs; exact ⟨_, rfl⟩)
    | cases hs
theorem qm_preP {j : Nat} {as : List Value} {h h' : qm_H} {v : Option Value} (hs : qm_p j as h = some (v, h')) : ∃ t, h'.1 = h.1 ++ t := by
  unfold qm_p at hs
  repeat' split at hs
  all_goals first
    | (cases hs; exact ⟨[], (List.append_nil _).symm⟩)
    | (cases hs; exact ⟨_, rfl⟩)
    | cases hs
theorem qm_preR : ∀ (f d k pc : Nat) (ls st : List Value) (h : qm_H) (v : Option Value) (h' : qm_H), qm_run f d k pc ls st h = some (v, h') → ∃ t, h'.1 = h.1 ++ t := by
  intro f
  induction f with
  | zero => intro d k pc ls st h v h' hs; simp [qm_run] at hs
  | succ f ih =>
    intro d k pc ls st h v h' hs
    rw [qm_run] at hs
    split at hs
    · cases hs
    · split at hs
      · split at hs
        · cases hs
        · rename_i hx
          obtain ⟨t, ht⟩ := qm_pre hx
          obtain ⟨t2, ht2⟩ := ih _ _ _ _ _ _ _ _ hs
          exact ⟨t ++ t2, by rw [ht2, ht]; simp⟩
        · cases hs
          exact ⟨[], by simp⟩
        · split at hs
          · cases hs
          · split at hs
            · cases hs
            · split at hs
              · cases hs
              · rename_i v1 h1 hc
                obtain ⟨t2, ht2⟩ := ih _ _ _ _ _ _ _ _ hs
                have h3 : ∃ t, h1.1 = h.1 ++ t := by
                  split at hc
                  · split at hc
                    · exact qm_preP hc
                    · cases hc
                  · split at hc
                    · exact ih _ _ _ _ _ _ _ _ hc
                    · cases hc
                obtain ⟨t, ht⟩ := h3
                exact ⟨t ++ t2, by rw [ht2, ht]; simp⟩
      · cases hs
theorem qm_sl_app (a b : List (Nat × Nat)) : qm_sl (a ++ b) = qm_sl a + qm_sl b := by simp [qm_sl]
theorem qm_le {h h' : qm_H} (h1 : ∃ t, h'.1 = h.1 ++ t) : h.1.length ≤ h'.1.length ∧ qm_sl h.1 ≤ qm_sl h'.1 := by
  obtain ⟨t, ht⟩ := h1
  rw [ht, qm_sl_app, List.length_append]
  omega
/-- entry locals -/
theorem qm_el_known (ad : Nat → Nat) : ∀ (as : List Value) (o i k : Nat) (v : Value), qm_ld (as.flatMap (fun v => if v.category = 2 then [v, .retAddr 0] else [v]) ++ List.replicate k (.retAddr 0)) i = some v → (o + i, qm_cv ad v) ∈ lv_args o (as.map (qm_cv ad))
  | [], o, i, k, v, h => by
    obtain ⟨h1, h2⟩ := qm_ld_some h
    simp at h1
    rw [List.getElem?_replicate] at h1
    split at h1
    · exact absurd (Option.some.inj h1).symm (h2 0)
    · cases h1
  | a :: as, o, i, k, v, h => by
    rw [List.map_cons, lv_args]
    obtain ⟨h1, h2⟩ := qm_ld_some h
    rw [List.flatMap_cons] at h1
    by_cases hc : a.category = 2
    · rw [if_pos hc] at h1
      match i, h1 with
      | 0, h1 =>
        simp at h1
        subst h1
        exact List.mem_cons_self
      | 1, h1 =>
        simp at h1
        exact absurd h1.symm (h2 0)
      | i + 2, h1 =>
        simp only [List.cons_append, List.nil_append, List.append_assoc, List.getElem?_cons_succ] at h1
        refine List.mem_cons_of_mem _ ?_
        rw [qm_cv_cat, if_pos hc]
        have := qm_el_known ad as (o + 2) i k v (qm_ld_of h1 h2)
        rwa [show o + 2 + i = o + (i + 2) by omega] at this
    · rw [if_neg hc] at h1
      match i, h1 with
      | 0, h1 =>
        simp at h1
        subst h1
        exact List.mem_cons_self
      | i + 1, h1 =>
        simp only [List.cons_append, List.nil_append, List.append_assoc, List.getElem?_cons_succ] at h1
        refine List.mem_cons_of_mem _ ?_
        rw [qm_cv_cat, if_neg hc]
        have := qm_el_known ad as (o + 1) i k v (qm_ld_of h1 h2)
        rwa [show o + 1 + i = o + (i + 1) by omega] at this
theorem qm_el_len (as : List Value) : (as.flatMap (fun v => if v.category = 2 then [v, Value.retAddr 0] else [v])).length = qm_cat as := by
  induction as with
  | nil => rfl
  | cons a as ih =>
    rw [List.flatMap_cons, List.length_append, ih]
    unfold qm_cat
    rw [List.map_cons, List.sum_cons]
    rcases lv_cat a with q | q <;> simp [q]
theorem qm_lg_len (as : List Value) : (lg_sl as).length = qm_cat as := by
  induction as with
  | nil => rfl
  | cons a as ih =>
    unfold lg_sl at ih ⊢
    rw [List.flatMap_cons, List.length_append, ih]
    unfold qm_cat
    rw [List.map_cons, List.sum_cons]
    rcases lv_cat a with q | q <;> simp [q]
theorem qm_cat_map (ad : Nat → Nat) (as : List Value) : qm_cat (as.map (qm_cv ad)) = qm_cat as := by simp [qm_cat, List.map_map, Function.comp_def, qm_cv_cat]
theorem qm_entry (ad : Nat → Nat) {as : List Value} {n : Nat} (h : qm_cat as ≤ n) : qm_L ad ((lg_sl (as.map (qm_cv ad)) ++ List.replicate (n - (lg_sl (as.map (qm_cv ad))).length) Slot.unset).toArray) n (qm_el n as) := by
  have h1 := lv_entry (as.map (qm_cv ad)) (n := n) (by rw [qm_lg_len, qm_cat_map]; exact h)
  refine ⟨h1.1, h1.2.1, ?_, fun i v hv => ?_⟩
  · unfold qm_el
    simp only [List.length_append, List.length_replicate, qm_el_len]
    omega
  · have := qm_el_known ad as 0 i _ v hv
    rw [Nat.zero_add] at this
    exact h1.2.2 _ this
