/-! WHAT THE TABLES SAY at the law's entry -/
section QEK
variable {s : State} {args : Array Value}
theorem qE_hts (h : ∀ w ∈ lw_tbl, w.before args s = true) : ∀ w ∈ qm_T, w.before args s = true := fun w hw => h w (List.mem_filter.mp hw).1
theorem qE_nw (h : ∀ w ∈ lw_tbl, w.before args s = true) : qm_nw s := fun w hw hn => va_Nw.of (by
  unfold qm_isN at hn
  split at hn
  · rfl
  · rfl
  · rfl
  · rfl
  · cases hn) (h w hw)
theorem qE_arr {ty : FieldType} (harr : (Cond.arrayClass ty).before args s = true) : ∃ cA, ArrOfT s cA ty ∧ s.vm.findClass ("[" ++ ty.toString) = some cA := by
  obtain ⟨cA, kA, comp, h1, h2, h3⟩ := Cond.arrayClass_spec harr
  exact ⟨cA, fun n z => ⟨fun k h => (by cases h), kA, h2, comp, h3⟩, h1⟩
theorem qE_va_K (h : ∀ w ∈ lw_tbl, w.before args s = true) : ∃ D G, va_K D vwCl (qm_tys G) s := by
  have hc : ∀ ci, ci < 10 → ∃ cC iS, u_Kn s (qm_cR ci) (qm_cT ci) (qm_cN ci) cC iS := fun ci hci => u_known h (qw_u hci) (h _ (qw_i hci))
  obtain ⟨fC, hfC⟩ : ∃ fC : Nat → ClassId, ∃ fI : Nat → Nat → Nat, ∀ ci, ci < 10 → u_Kn s (qm_cR ci) (qm_cT ci) (qm_cN ci) (fC ci) (fI ci) := by
    refine ⟨fun ci => if hci : ci < 10 then Classical.choose (hc ci hci) else Classical.choose (hc 0 (by omega)), fun ci => if hci : ci < 10 then Classical.choose (Classical.choose_spec (hc ci hci)) else fun _ => 0, fun ci hci => ?_⟩
    simp only [dif_pos hci]
    exact Classical.choose_spec (Classical.choose_spec (hc ci hci))
  obtain ⟨fI, hfI⟩ := hfC
  obtain ⟨cI, i1, i2⟩ := qE_arr (h _ qw_aI)
  obtain ⟨cB, b1, b2⟩ := qE_arr (h _ qw_aB)
  obtain ⟨cZ, z1, z2⟩ := qE_arr (h _ qw_aZ)
  refine ⟨(fC, fI), (cI, cB, cZ), fun ci q hq => ?_, fun k q hq => ?_⟩
  · have hci : ci < 10 := (List.getElem?_eq_some_iff.mp hq).1
    have := qm_vw hci
    rw [this] at hq
    have := Option.some.inj hq
    subst this
    exact hfI ci hci
  · match k, hq with
    | 0, hq => have := Option.some.inj hq; subst this; exact ⟨i1, i2⟩
    | 1, hq => have := Option.some.inj hq; subst this; exact ⟨b1, b2⟩
    | 2, hq => have := Option.some.inj hq; subst this; exact ⟨z1, z2⟩
    | k + 3, hq => cases hq
end QEK
