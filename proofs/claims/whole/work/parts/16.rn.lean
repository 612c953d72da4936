/-! RUNS WITHOUT FUEL: rows for the small machine -/
theorem qr_mono : ∀ (f d k pc : Nat) (ls st : List Value) (h : qm_H) (x : Option Value × qm_H), qm_run f d k pc ls st h = some x → ∀ f' d', f ≤ f' → d ≤ d' → qm_run f' d' k pc ls st h = some x := by
  intro f
  induction f with
  | zero => intro d k pc ls st h x hs; simp [qm_run] at hs
  | succ f ih =>
    intro d k pc ls st h x hs f' d' hf hd
    obtain ⟨f', rfl⟩ : ∃ g, f' = g + 1 := ⟨f' - 1, by omega⟩
    rw [qm_run] at hs
    split at hs
    · cases hs
    · rename_i r hm
      split at hs
      · rename_i en hc
        split at hs
        · cases hs
        · rename_i hx
          rw [qm_run, hm]
          dsimp only
          rw [hc]
          dsimp only
          rw [hx]
          exact ih _ _ _ _ _ _ _ hs _ _ (by omega) hd
        · rename_i hx
          rw [qm_run, hm]
          dsimp only
          rw [hc]
          dsimp only
          rw [hx]
          exact hs
        · rename_i j as rest hx
          rw [qm_run, hm]
          dsimp only
          rw [hc]
          dsimp only
          rw [hx]
          dsimp only
          split at hs
          · cases hs
          · rename_i d0
            obtain ⟨d', rfl⟩ : ∃ g, d' = g + 1 := ⟨d' - 1, by omega⟩
            dsimp only
            split at hs
            · cases hs
            · rename_i rj hj
              try rw [hj]
              try dsimp only
              split at hs
              · cases hs
              · rename_i v h1 hc1
                have h2 := ih _ _ _ _ _ _ _ hs f' (d' + 1) (by omega) hd
                have h3 : (if qm_NM ≤ j then (if 8 ≤ d' then qm_p j as h else none) else if qm_cat as ≤ rj.2.2.1 then qm_run f' d' j 0 (qm_el rj.2.2.1 as) [] h else none) = some (v, h1) := by
                  split at hc1
                  · rename_i hN
                    rw [if_pos hN]
                    split at hc1
                    · rename_i h8
                      rw [if_pos (by omega)]
                      exact hc1
                    · cases hc1
                  · rename_i hN
                    rw [if_neg hN]
                    split at hc1
                    · rename_i hfit
                      rw [if_pos hfit]
                      exact ih _ _ _ _ _ _ _ hc1 _ _ (by omega) (by omega)
                    · cases hc1
                rw [h3]
                exact h2
      · cases hs
def qm_Rn (d k pc : Nat) (ls st : List Value) (h : qm_H) (x : Option Value × qm_H) : Prop := ∃ f, qm_run f d k pc ls st h = some x
theorem qm_Rn.up {d d' k pc : Nat} {ls st : List Value} {h : qm_H} {x : Option Value × qm_H} (hr : qm_Rn d k pc ls st h x) (hd : d ≤ d') : qm_Rn d' k pc ls st h x := by
  obtain ⟨f, hf⟩ := hr
  exact ⟨f, qr_mono _ _ _ _ _ _ _ _ hf f d' (Nat.le_refl _) hd⟩
/-- the method k: its locals, kind, code -/
def qm_C (k nL rt : Nat) (cd : List (Option qm_e)) : Prop := ∃ r : qm_R, qm_m k = some r ∧ r.2.2.1 = nL ∧ r.2.2.2.2.2.1 = rt ∧ r.2.2.2.2.2.2 = cd
def qm_gN (rt : Nat) (cd : List (Option qm_e)) : Nat → Nat → List Value → List Value → qm_H → Option qm_S
  | 0, pc, ls, st, h => some (pc, ls, st, h)
  | n + 1, pc, ls, st, h => match cd[pc]? with
    | some (some en) => match qm_x rt en pc ls st h with
      | some (.inl (pc', ls', st', h')) => qm_gN rt cd n pc' ls' st' h'
      | _ => none
    | _ => none
section QR
variable {d k nL rt pc pc' : Nat} {cd : List (Option qm_e)} {ls st ls' st' : List Value} {h h' : qm_H} {x : Option Value × qm_H} {en : qm_e}
theorem qr_x (hC : qm_C k nL rt cd) (hc : cd[pc]? = some (some en)) (hx : qm_x rt en pc ls st h = some (.inl (pc', ls', st', h'))) (kk : qm_Rn d k pc' ls' st' h' x) : qm_Rn d k pc ls st h x := by
  obtain ⟨r, hm, -, rfl, rfl⟩ := hC
  obtain ⟨f, hf⟩ := kk
  refine ⟨f + 1, ?_⟩
  rw [qm_run, hm]
  dsimp only
  rw [hc]
  dsimp only
  rw [hx]
  exact hf
theorem qr_s (hC : qm_C k nL rt cd) {n : Nat} (hN : qm_gN rt cd n pc ls st h = some (pc', ls', st', h')) (kk : qm_Rn d k pc' ls' st' h' x) : qm_Rn d k pc ls st h x := by
  induction n generalizing pc ls st h with
  | zero => cases hN; exact kk
  | succ n ih =>
    rw [qm_gN] at hN
    split at hN
    · rename_i en hc
      split at hN
      · rename_i hx
        exact qr_x hC hc hx (ih hN)
      · cases hN
    · cases hN
theorem qr_r {v : Option Value} (hC : qm_C k nL rt cd) (hc : cd[pc]? = some (some en)) (hx : qm_x rt en pc ls st h = some (.inr (.inl v))) : qm_Rn d k pc ls st h (v, h) := by
  obtain ⟨r, hm, -, rfl, rfl⟩ := hC
  refine ⟨1, ?_⟩
  rw [qm_run, hm]
  dsimp only
  rw [hc]
  dsimp only
  rw [hx]
theorem qr_c {j nLj rtj : Nat} {cdj : List (Option qm_e)} {as rest : List Value} {v : Option Value} {h1 : qm_H} (hC : qm_C k nL rt cd) (hc : cd[pc]? = some (some en)) (hx : qm_x rt en pc ls st h = some (.inr (.inr (j, as, rest)))) (hCj : qm_C j nLj rtj cdj) (hj : Nat.ble qm_NM j = false) (hfit : Nat.ble (qm_cat as) nLj = true)
    (hr : qm_Rn d j 0 (qm_el nLj as) [] h (v, h1)) (kk : qm_Rn (d + 1) k (pc + 3) ls (v.toList ++ rest) h1 x) : qm_Rn (d + 1) k pc ls st h x := by
  obtain ⟨r, hm, -, rfl, rfl⟩ := hC
  obtain ⟨rj, hmj, rfl, -, -⟩ := hCj
  obtain ⟨f1, hf1⟩ := hr
  obtain ⟨f2, hf2⟩ := kk
  refine ⟨max f1 f2 + 1, ?_⟩
  rw [qm_run, hm]
  dsimp only
  rw [hc]
  dsimp only
  rw [hx]
  dsimp only
  rw [hmj]
  dsimp only
  have hj' : ¬ qm_NM ≤ j := fun q => by rw [Nat.ble_eq_true_of_le q] at hj; cases hj
  rw [if_neg hj', if_pos (Nat.le_of_ble_eq_true hfit), qr_mono _ _ _ _ _ _ _ _ hf1 (max f1 f2) d (Nat.le_max_left _ _) (Nat.le_refl _)]
  exact qr_mono _ _ _ _ _ _ _ _ hf2 (max f1 f2) (d + 1) (Nat.le_max_right _ _) (Nat.le_refl _)
theorem qr_p {j : Nat} {as rest : List Value} {v : Option Value} {h1 : qm_H} (hC : qm_C k nL rt cd) (hc : cd[pc]? = some (some en)) (hx : qm_x rt en pc ls st h = some (.inr (.inr (j, as, rest)))) (hj : Nat.ble qm_NM j = true) (hj2 : Nat.ble j (qm_NM + 5) = true) (h8 : 8 ≤ d)
    (hr : qm_p j as h = some (v, h1)) (kk : qm_Rn (d + 1) k (pc + 3) ls (v.toList ++ rest) h1 x) : qm_Rn (d + 1) k pc ls st h x := by
  obtain ⟨r, hm, -, rfl, rfl⟩ := hC
  obtain ⟨f2, hf2⟩ := kk
  have hmj : ∃ rj, qm_m j = some rj := by
    have h1 := Nat.le_of_ble_eq_true hj2
    have h2 : qm_NM + 5 < qm_Ms.length := by decide +kernel
    have h3 : j < qm_Ms.length := by omega
    exact ⟨qm_Ms[j], List.getElem?_eq_getElem h3⟩
  obtain ⟨rj, hmj⟩ := hmj
  refine ⟨f2 + 1, ?_⟩
  rw [qm_run, hm]
  dsimp only
  rw [hc]
  dsimp only
  rw [hx]
  dsimp only
  rw [hmj]
  dsimp only
  rw [if_pos (Nat.le_of_ble_eq_true hj), if_pos h8, hr]
  exact hf2
/-- less known of the locals -/
def qm_lw : List Value → List Value → Prop
  | [], [] => True
  | a :: l, b :: m => (a = .retAddr 0 ∨ a = b) ∧ qm_lw l m
  | _, _ => False
theorem qm_lw.at {a b : List Value} (hl : qm_lw a b) : a.length = b.length ∧ ∀ (i : Nat) (v : Value), qm_ld a i = some v → qm_ld b i = some v := by
  induction a generalizing b with
  | nil => cases b with
    | nil => exact ⟨rfl, fun i v q => q⟩
    | cons => cases hl
  | cons x a ih => cases b with
    | nil => cases hl
    | cons y b =>
      obtain ⟨h1, h2⟩ := hl
      obtain ⟨e1, e2⟩ := ih h2
      refine ⟨by simp [e1], fun i v q => ?_⟩
      cases i with
      | zero =>
        rcases h1 with rfl | rfl
        · simp [qm_ld] at q
        · exact q
      | succ i => exact e2 i v q
theorem qm_lw.of {a b : List Value} (hl : a.length = b.length) (hk : ∀ (i : Nat) (v : Value), a[i]? = some v → v = .retAddr 0 ∨ b[i]? = some v) : qm_lw a b := by
  induction a generalizing b with
  | nil => cases b with
    | nil => trivial
    | cons => cases hl
  | cons x a ih => cases b with
    | nil => cases hl
    | cons y b =>
      refine ⟨?_, ih (by simpa using hl) (fun i v q => hk (i + 1) v q)⟩
      rcases hk 0 x rfl with q | q
      · exact Or.inl q
      · exact Or.inr (Option.some.inj q).symm
end QR
theorem qm_lw.get {a b : List Value} (hl : qm_lw a b) : ∀ (i : Nat) (v : Value), a[i]? = some v → v = .retAddr 0 ∨ b[i]? = some v := by
  induction a generalizing b with
  | nil => intro i v q; simp at q
  | cons x a ih => cases b with
    | nil => cases hl
    | cons y b =>
      obtain ⟨h1, h2⟩ := hl
      intro i v q
      cases i with
      | zero =>
        cases q
        rcases h1 with q | q
        · exact Or.inl q
        · exact Or.inr (by rw [q]; rfl)
      | succ i => exact ih h2 i v q
theorem qm_lw.set {a b : List Value} (hl : qm_lw a b) (i : Nat) (v : Value) : qm_lw (a.set i v) (b.set i v) := by
  have hlen := hl.at.1
  refine qm_lw.of (by simp [hlen]) (fun j w q => ?_)
  by_cases hj : j = i
  · subst hj
    by_cases hb : j < a.length
    · rw [List.getElem?_set_self hb] at q
      exact Or.inr (by rw [List.getElem?_set_self (by omega)]; exact q)
    · rw [List.getElem?_eq_none (by simp; omega)] at q; cases q
  · rw [List.getElem?_set_ne (Ne.symm hj)] at q ⊢
    exact hl.get j w q
theorem qm_lw.clear {a b : List Value} (hl : qm_lw a b) (i : Nat) : qm_lw (a.set i (.retAddr 0)) b := by
  have hlen := hl.at.1
  refine qm_lw.of (by simp [hlen]) (fun j w q => ?_)
  by_cases hj : j = i
  · subst hj
    by_cases hb : j < a.length
    · rw [List.getElem?_set_self hb] at q
      exact Or.inl (Option.some.inj q).symm
    · rw [List.getElem?_eq_none (by simp; omega)] at q; cases q
  · rw [List.getElem?_set_ne (Ne.symm hj)] at q
    exact hl.get j w q
theorem qm_lw.clear2 {a b : List Value} (hl : qm_lw a b) {i : Nat} (hi : ∀ v, a[i]? = some v → v = .retAddr 0) (x : Value) : qm_lw a (b.set i x) := by
  have hlen := hl.at.1
  refine qm_lw.of (by simp [hlen]) (fun j w q => ?_)
  by_cases hj : j = i
  · subst hj
    exact Or.inl (hi w q)
  · rw [List.getElem?_set_ne (Ne.symm hj)]
    exact hl.get j w q
theorem qm_lw.st {a b : List Value} (hl : qm_lw a b) (i : Nat) (v : Value) : qm_lw (qm_st a i v) (qm_st b i v) := by
  cases i with
  | zero => exact hl.set 0 v
  | succ j =>
    have hg := hl.get j
    have hlen := hl.at.1
    unfold qm_st
    dsimp only
    cases ha : a[j]? with
    | none =>
      have hb : b[j]? = none := by
        rw [List.getElem?_eq_none_iff] at ha ⊢
        omega
      rw [hb]
      exact hl.set (j + 1) v
    | some w =>
      rcases hg w ha with rfl | hb
      · have hc : qm_lw a (b.set j (.retAddr 0)) := hl.clear2 (fun v q => by rw [ha] at q; exact (Option.some.inj q).symm) _
        cases hb : b[j]? with
        | none => exact hl.set (j + 1) v
        | some z => cases z <;> first | exact hl.set (j + 1) v | exact hc.set (j + 1) v
      · rw [hb]
        cases w <;> first | exact hl.set (j + 1) v | exact (hl.set j _).set (j + 1) v
set_option maxHeartbeats 4000000 in
theorem qm_xw {rt : Nat} {en : qm_e} {pc pc' : Nat} {a b st a' st' : List Value} {h h' : qm_H} (hl : qm_lw a b) (hs : qm_x rt en pc a st h = some (.inl (pc', a', st', h'))) : ∃ b', qm_x rt en pc b st h = some (.inl (pc', b', st', h')) ∧ qm_lw a' b' := by
  obtain ⟨i, len, ea, eb, et⟩ := en
  obtain ⟨hlen, hld⟩ := hl.at
  cases i <;> simp only [qm_x, qm_nx, qm_go] at hs ⊢ <;> (repeat' split at hs) <;> first
    | (cases hs; done)
    | (rename_i hv; rw [hld _ _ hv]; cases hs; exact ⟨_, rfl, hl⟩)
    | (rename_i hv; rw [hld _ _ hv]; cases hs; exact ⟨_, rfl, hl.st _ _⟩)
    | (rename_i hv; rw [hlen] at hv; rw [if_pos hv]; cases hs; exact ⟨_, rfl, hl.st _ _⟩)
    | (rename_i hv; rw [hlen] at hv; rw [if_pos hv]; cases hs; exact ⟨_, rfl, (hl.st _ _).set _ _⟩)
    | (rename_i h1 h2; rw [if_pos h1, if_pos h2]; cases hs; exact ⟨b, rfl, hl⟩)
    | (rename_i h1 _ _ ho h2; rw [if_neg h1, ho]; dsimp only; rw [if_pos h2]; cases hs; exact ⟨b, rfl, hl⟩)
    | (rename_i h1 ho h2; rw [if_neg h1, ho]; dsimp only; rw [if_pos h2]; cases hs; exact ⟨b, rfl, hl⟩)
    | (cases hs; exact ⟨b, by (simp_all; try (intro q; exfalso; omega)), hl⟩)
theorem qm_xw2 {rt : Nat} {en : qm_e} {pc : Nat} {a b st : List Value} {h : qm_H} {z : Option Value ⊕ (Nat × List Value × List Value)} (hs : qm_x rt en pc a st h = some (.inr z)) : qm_x rt en pc b st h = some (.inr z) := by
  obtain ⟨i, len, ea, eb, et⟩ := en
  cases i <;> simp only [qm_x, qm_nx, qm_go] at hs ⊢ <;> (repeat' split at hs) <;> first
    | (cases hs; done)
    | (cases hs; simp_all; done)
theorem qm_runw : ∀ (f d k pc : Nat) (a b st : List Value) (h : qm_H) (x : Option Value × qm_H), qm_lw a b → qm_run f d k pc a st h = some x → qm_run f d k pc b st h = some x := by
  intro f
  induction f with
  | zero => intro d k pc a b st h x hl hs; simp [qm_run] at hs
  | succ f ih =>
    intro d k pc a b st h x hl hs
    rw [qm_run] at hs
    split at hs
    · cases hs
    · rename_i r hm
      split at hs
      · rename_i en hc
        split at hs
        · cases hs
        · rename_i hx
          rw [qm_run, hm]
          dsimp only
          rw [hc]
          dsimp only
          obtain ⟨b', hx', hl'⟩ := qm_xw hl hx
          rw [hx']
          exact ih _ _ _ _ _ _ _ _ hl' hs
        · rename_i hx
          rw [qm_run, hm]
          dsimp only
          rw [hc]
          dsimp only
          rw [qm_xw2 hx]
          exact hs
        · rename_i j as rest hx
          rw [qm_run, hm]
          dsimp only
          rw [hc]
          dsimp only
          rw [qm_xw2 hx]
          dsimp only
          split at hs
          · cases hs
          · try dsimp only
            split at hs
            · cases hs
            · rename_i rj hj
              try rw [hj]
              try dsimp only
              split at hs
              · cases hs
              · rename_i v h1 hc1
                try rw [hc1]
                exact ih _ _ _ _ _ _ _ _ hl hs
      · cases hs
theorem qr_w {d k pc : Nat} {a b st : List Value} {h : qm_H} {x : Option Value × qm_H} (hl : qm_lw a b) (kk : qm_Rn d k pc a st h x) : qm_Rn d k pc b st h x := by
  obtain ⟨f, hf⟩ := kk
  exact ⟨f, qm_runw _ _ _ _ _ _ _ _ _ hl hf⟩
