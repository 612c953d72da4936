/-! THE STRINGS at the law's entry -/
section QEL
variable {s : State} {args : Array Value}
theorem qE_str {tm : Term} {N : Nat} {f : Nat → Int32} (hN : N < 2 ^ 31) (hfl : ∀ w, w ∈ flatC (Jvm.Cond.and given_1 narrow_1) → w.before args s = true) (htb : ∀ w ∈ lw_tbl, w.before args s = true)
    (m1 : Cond.exactly tm "java/lang/String" ∈ flatC (Jvm.Cond.and given_1 narrow_1)) (m2 : Cond.eq (tm.field "java/lang/String" "coder" "B") (Term.int 0) ∈ flatC (Jvm.Cond.and given_1 narrow_1)) (m3 : Cond.arrayOf (tm.field "java/lang/String" "value" "[B") FieldType.byte ∈ flatC (Jvm.Cond.and given_1 narrow_1)) (m4 : Cond.eq (tm.field "java/lang/String" "value" "[B").length (Term.int (Int32.ofNat N)) ∈ flatC (Jvm.Cond.and given_1 narrow_1)) (m5 : ∀ j, j < N → Cond.eq ((tm.field "java/lang/String" "value" "[B").elem (Term.int (Int32.ofNat j))) (Term.int (f j)) ∈ flatC (Jvm.Cond.and given_1 narrow_1)) :
    ∃ K V, Term.eval args s none [] s tm = some (Value.ref K) ∧ qj_X K V N f (fun q => s.heap.size ≤ q) s s.heap := by
  have hA : ∀ a : Nat, a < s.heap.size → ¬ (s.heap.size ≤ a) := fun a ha hb => absurd ha (Nat.not_lt_of_le hb)
  obtain ⟨adK, adV, -, hev⟩ := vk_Sof (args := args) (s := s) (N := 1) (tm := fun _ => tm) (len := [N]) (byt := [(List.range N).map f]) (A := fun q => s.heap.size ≤ q) (fun i hi => by
      obtain rfl : i = 0 := by omega
      exact hN) (fun i _ => hfl _ m1) (fun i _ => hfl _ m2) (fun i _ => hfl _ m3) (fun i hi => by
      obtain rfl : i = 0 := by omega
      exact hfl _ m4) (fun i hi j hj => by
      obtain rfl : i = 0 := by omega
      have hj' : j < N := hj
      have e : (([(List.range N).map f] : List (List Int32)).getD 0 []).getD j 0 = f j := by
        show ((List.range N).map f).getD j 0 = f j
        rw [List.getD_eq_getElem?_getD, List.getElem?_map, List.getElem?_range hj']
        rfl
      rw [e]
      exact hfl _ (m5 j hj')) (fun i j hi hj hne => absurd (by omega) hne) hA
  have ev := hev 0 (by omega)
  obtain ⟨V, evV, hT⟩ := va_Tof (A := fun q => s.heap.size ≤ q) (f := fun j => Value.int (f j)) hN (hfl _ m3) (va_eqt (hfl _ m4)) (fun j hj => va_eqt (hfl _ (m5 j hj))) hA
  refine ⟨adK 0, V, ev, va_Oof (hfl _ m1) ev hA, vk_OFof ev (va_eqt (hfl _ m2)) hA, vk_OFof ev evV hA, hT, va_Zof (htb _ (by decide +kernel)) (htb _ (by decide +kernel)) (va_eqi (hfl _ (by decide +kernel))) hA, va_Zqof (htb _ (by decide +kernel)) (htb _ (by decide +kernel)) (hfl _ (by decide +kernel)) hA⟩
theorem qE_Zs (hg : (Jvm.Cond.and given_1 narrow_1).before args s = true) (htb : ∀ w ∈ lw_tbl, w.before args s = true) : ∃ K0 K1, qL_Z K0 K1 s := by
  have hfl := flat_of_before _ hg
  obtain ⟨K0, V0, e0, x0⟩ := qE_str (tm := Term.string RX6 60) (N := 78) (f := qj_f 1000000) (by decide) hfl htb (by decide +kernel) (by decide +kernel) (by decide +kernel) (by decide +kernel) (by decide +kernel)
  obtain ⟨K1, V1, e1, x1⟩ := qE_str (tm := Term.string RX6 53) (N := 16) (f := qj_f 1000002) (by decide) hfl htb (by decide +kernel) (by decide +kernel) (by decide +kernel) (by decide +kernel) (by decide +kernel)
  refine ⟨K0, K1, ⟨vk_R.of (htb _ (by decide +kernel)) e0, vk_R.of (htb _ (by decide +kernel)) e1⟩, fun a ha => ?_⟩
  by_cases z : a = 1000000
  · subst z
    exact ⟨V0, x0⟩
  · by_cases y : a = 1000002
    · subst y
      exact ⟨V1, x1⟩
    · exfalso
      apply ha
      unfold qm_str
      rw [if_neg z, if_neg y]
end QEL
