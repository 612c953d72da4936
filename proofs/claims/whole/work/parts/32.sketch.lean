/-! SketchFiller.sketch over the small machine (by program: wip/whole/gen_sk.py) -/
theorem qR_id (T : List (List Nat)) (L : List (Nat × Nat × Nat)) (hL : (T.zipIdx.all fun x => x.1.zipIdx.all fun y => decide (y.1 = 0) || L.contains (x.2, y.2, y.1 - 1)) = true) (f : Nat → Nat → Option Nat) (h : ∀ e ∈ L, f e.1 e.2.1 = some e.2.2) (a i : Nat) : (match (T.getD a []).getD i 0 with | 0 => f a i | m + 1 => some m) = f a i := by
  cases hc : (T.getD a []).getD i 0 with
  | zero => rfl
  | succ m =>
    have h1 : ∃ r, T[a]? = some r ∧ r[i]? = some (m + 1) := by
      cases hr : T[a]? with
      | none => rw [List.getD_eq_getElem?_getD, List.getD_eq_getElem?_getD, hr] at hc; simp at hc
      | some r =>
        refine ⟨r, rfl, ?_⟩
        rw [List.getD_eq_getElem?_getD, List.getD_eq_getElem?_getD, hr] at hc
        simp only [Option.getD_some] at hc
        cases hi : r[i]? with
        | none => rw [hi] at hc; simp at hc
        | some z => rw [hi] at hc; simp at hc; rw [hc]
    obtain ⟨r, e1, e2⟩ := h1
    rw [List.all_eq_true] at hL
    have h2 := hL (r, a) (List.mem_zipIdx_iff_getElem?.mpr e1)
    rw [List.all_eq_true] at h2
    have h3 := h2 (m + 1, i) (List.mem_zipIdx_iff_getElem?.mpr e2)
    simp only [Bool.or_eq_true, decide_eq_true_eq, Nat.add_sub_cancel] at h3
    rcases h3 with h3 | h3
    · omega
    · exact (h (a, i, m) (List.contains_iff_mem.mp h3)).symm
def c4_L : List (Nat × Nat × Nat) := [(0, 0, 1), (1, 0, 2)]
theorem c4_id {f : Nat → Nat → Option Nat} (h : ∀ e ∈ c4_L, f e.1 e.2.1 = some e.2.2) : c4_R f = f := by
  funext a i
  exact qR_id c4_T c4_L (by decide +kernel) f h a i
def ct_L : List (Nat × Nat × Nat) := [(4, 0, 5), (4, 1, 6), (4, 2, 7), (4, 3, 8), (4, 4, 9)]
theorem ct_id {f : Nat → Nat → Option Nat} (h : ∀ e ∈ ct_L, f e.1 e.2.1 = some e.2.2) : ct_R f = f := by
  funext a i
  exact qR_id ct_T ct_L (by decide +kernel) f h a i
def cw_L : List (Nat × Nat × Nat) := [(10, 0, 4), (10, 1, 14), (10, 2, 11), (11, 0, 12), (11, 1, 13), (14, 7, 15), (14, 8, 16), (14, 9, 17), (14, 10, 20), (14, 11, 21), (14, 12, 22), (14, 16, 4)]
theorem cw_id {f : Nat → Nat → Option Nat} (h : ∀ e ∈ cw_L, f e.1 e.2.1 = some e.2.2) : cw_R f = f := by
  funext a i
  exact qR_id cw_T cw_L (by decide +kernel) f h a i
def cr_L : List (Nat × Nat × Nat) := [(14, 14, 23), (14, 15, 24)]
theorem cr_id {f : Nat → Nat → Option Nat} (h : ∀ e ∈ cr_L, f e.1 e.2.1 = some e.2.2) : cr_R f = f := by
  funext a i
  exact qR_id cr_T cr_L (by decide +kernel) f h a i
def cs_L : List (Nat × Nat × Nat) := [(0, 1, 3), (0, 2, 30), (25, 0, 26), (25, 2, 3), (26, 0, 14), (26, 2, 27), (26, 3, 28), (26, 4, 29), (30, 0, 14), (30, 1, 25), (30, 2, 31), (30, 3, 32), (30, 4, 33)]
theorem cs_id {f : Nat → Nat → Option Nat} (h : ∀ e ∈ cs_L, f e.1 e.2.1 = some e.2.2) : cs_R f = f := by
  funext a i
  exact qR_id cs_T cs_L (by decide +kernel) f h a i
theorem qr_gr {d k nL rt pc : Nat} {cd : List (Option qm_e)} {ls st : List Value} {h : qm_H} {r : Option Value × qm_H} {idx ci f t a b : Nat} (hC : qm_C k nL rt cd) (hc : cd[pc]? = some (some (.getfield idx, 3, ci, f, t))) (hk : h.1[a]? = some (0, ci)) (ht : t % 10 = 2) (hv : h.2.2 a f = some b) (kk : qm_Rn d k (pc + 3) ls (.ref b :: st) h r) : qm_Rn d k pc ls (.ref a :: st) h r := by
  refine qr_x hC hc ?_ kk
  simp only [qm_x, hk, if_true, qm_nx, qm_gv, ht, hv]
/-- where references stand when sketch begins: the row, and what the search was -/
def sk_R (sr : Option Nat) (a i : Nat) : Option Nat := if a = 0 then (if i = 1 then some 3 else if i = 2 then sr else none) else none
def sk_cp (φ : qm_F) : qm_F := fun b j => if b = 5 then (if j < 800 then φ 2 j else 0) else φ b j
def sk_f1 (φ : qm_F) : qm_F := sk_cp (qm_u (qm_z φ 4 0) 1 1 0)
def sk_r1 (sr : Option Nat) : Nat → Nat → Option Nat := qm_z (qm_z (c4_R (sk_R sr)) 4 none) 5 none
def sk_f2 (φ : qm_F) : qm_F := (qm_z (qm_z (qm_z (qm_z (qm_u (sk_f1 φ) 4 5 0) 6 0) 7 0) 8 0) 9 0)
def sk_r2 (sr : Option Nat) : Nat → Nat → Option Nat := (qm_u (qm_z (qm_u (qm_z (qm_u (qm_z (qm_u (qm_z (qm_u (sk_r1 sr) 4 0 (some 5)) 6 none) 4 1 (some 6)) 7 none) 4 2 (some 7)) 8 none) 4 3 (some 8)) 9 none) 4 4 (some 9))
def sk_f3 (φ : qm_F) : qm_F := (qm_z (qm_z (qm_z (qm_u (qm_z (qm_z (qm_u (qm_z (qm_z (qm_z (qm_u (qm_u (qm_u (qm_u (qm_u (qm_u (qm_u (qm_z (qm_u (qm_u (qm_u (qm_u (qm_z (qm_z (qm_z (qm_z φ 10 0) 11 0) 12 0) 13 0) 11 2 0) 10 3 0) 10 4 0) 10 5 0) 14 0) 14 0 1) 14 1 0) 14 2 0) 14 3 0) 14 4 0) 14 5 0) 14 6 0) 15 0) 16 0) 17 0) 14 13 0) 18 0) 19 0) 14 17 0) 20 0) 21 0) 22 0)
def sk_r3 (sr : Option Nat) : Nat → Nat → Option Nat := (qm_u (qm_u (qm_z (qm_u (qm_z (qm_u (qm_z (qm_u (qm_u (qm_z (qm_u (qm_z (qm_u (qm_z (qm_u (qm_z (qm_u (qm_z (qm_z (qm_u (qm_u (qm_u (qm_z (qm_u (qm_z (qm_z (qm_z (sk_r2 sr) 10 none) 11 none) 12 none) 11 0 (some 12)) 13 none) 11 1 (some 13)) 10 2 (some 11)) 10 0 (some 4)) 14 none) 15 none) 14 7 (some 15)) 16 none) 14 8 (some 16)) 17 none) 14 9 (some 17)) 18 none) 14 14 (some 18)) 19 none) 14 15 (some 19)) 14 16 (some 4)) 20 none) 14 10 (some 20)) 21 none) 14 11 (some 21)) 22 none) 14 12 (some 22)) 10 1 (some 14))
def sk_f4 (φ : qm_F) : qm_F := qm_z (qm_z φ 23 0) 24 0
def sk_r4 (sr : Option Nat) : Nat → Nat → Option Nat := qm_u (qm_z (qm_u (qm_z (sk_r3 sr) 23 none) 14 14 (some 23)) 24 none) 14 15 (some 24)
def sk_f5_0 (φ : qm_F) : qm_F := (qm_u (qm_u (qm_u (qm_u (qm_u (qm_u (qm_u (qm_z (qm_z (qm_z (qm_z (qm_u (qm_z φ 25 0) 25 3 0) 26 0) 27 0) 28 0) 29 0) 26 5 0) 26 6 0) 26 7 0) 26 8 0) 26 9 0) 26 1 (((1 : Int32) <<< ((qm_u (qm_u (qm_u (qm_u (qm_u (qm_z (qm_z (qm_z (qm_z (qm_u (qm_z φ 25 0) 25 3 0) 26 0) 27 0) 28 0) 29 0) 26 5 0) 26 6 0) 26 7 0) 26 8 0) 26 9 0) 14 0 &&& 31)) - 1)) 25 1 ((1 : Int32) <<< ((qm_u (qm_u (qm_u (qm_u (qm_u (qm_u (qm_z (qm_z (qm_z (qm_z (qm_u (qm_z φ 25 0) 25 3 0) 26 0) 27 0) 28 0) 29 0) 26 5 0) 26 6 0) 26 7 0) 26 8 0) 26 9 0) 26 1 (((1 : Int32) <<< ((qm_u (qm_u (qm_u (qm_u (qm_u (qm_z (qm_z (qm_z (qm_z (qm_u (qm_z φ 25 0) 25 3 0) 26 0) 27 0) 28 0) 29 0) 26 5 0) 26 6 0) 26 7 0) 26 8 0) 26 9 0) 14 0 &&& 31)) - 1)) 14 5 &&& 31)))
def sk_r5_0 (sr : Option Nat) : Nat → Nat → Option Nat := (qm_u (qm_u (qm_u (qm_u (qm_z (qm_u (qm_z (qm_u (qm_z (qm_z (qm_z (sk_r4 sr) 25 none) 26 none) 27 none) 26 2 (some 27)) 28 none) 26 3 (some 28)) 29 none) 26 4 (some 29)) 26 0 (some 14)) 25 0 (some 26)) 25 2 (some 3))
def sk_f6_0 (nS : Nat) (φ : qm_F) : qm_F := qm_ff (sk_f5_0 φ) 3 nS 0
def sk_f7_0 (nS : Nat) (φ : qm_F) : qm_F := (qm_ff (qm_z (qm_u (qm_u (qm_u (qm_u (qm_z (qm_z (qm_z (sk_f6_0 nS φ) 30 0) 31 0) 32 0) 30 5 0) 30 6 0) 30 7 0) 30 8 (-1)) 33 0) 31 5 (-1))
def sk_r7_0 (sr : Option Nat) : Nat → Nat → Option Nat := qm_u ((qm_u (qm_z (qm_u (qm_u (qm_u (qm_z (qm_u (qm_z (qm_z (sk_r5_0 sr) 30 none) 31 none) 30 2 (some 31)) 32 none) 30 3 (some 32)) 30 0 (some 14)) 30 1 (some 25)) 33 none) 30 4 (some 33))) 0 2 (some 30)
def sk_f5_1 (φ : qm_F) : qm_F := (qm_u (qm_u (qm_u (qm_u (qm_u (qm_u (qm_u (qm_z (qm_z (qm_z (qm_z (qm_u (qm_z (qm_z φ 25 0) 26 0) 26 3 0) 27 0) 28 0) 29 0) 30 0) 27 5 0) 27 6 0) 27 7 0) 27 8 0) 27 9 0) 27 1 (((1 : Int32) <<< ((qm_u (qm_u (qm_u (qm_u (qm_u (qm_z (qm_z (qm_z (qm_z (qm_u (qm_z (qm_z φ 25 0) 26 0) 26 3 0) 27 0) 28 0) 29 0) 30 0) 27 5 0) 27 6 0) 27 7 0) 27 8 0) 27 9 0) 14 0 &&& 31)) - 1)) 26 1 ((1 : Int32) <<< ((qm_u (qm_u (qm_u (qm_u (qm_u (qm_u (qm_z (qm_z (qm_z (qm_z (qm_u (qm_z (qm_z φ 25 0) 26 0) 26 3 0) 27 0) 28 0) 29 0) 30 0) 27 5 0) 27 6 0) 27 7 0) 27 8 0) 27 9 0) 27 1 (((1 : Int32) <<< ((qm_u (qm_u (qm_u (qm_u (qm_u (qm_z (qm_z (qm_z (qm_z (qm_u (qm_z (qm_z φ 25 0) 26 0) 26 3 0) 27 0) 28 0) 29 0) 30 0) 27 5 0) 27 6 0) 27 7 0) 27 8 0) 27 9 0) 14 0 &&& 31)) - 1)) 14 5 &&& 31)))
def sk_r5_1 (sr : Option Nat) : Nat → Nat → Option Nat := (qm_u (qm_u (qm_u (qm_u (qm_z (qm_u (qm_z (qm_u (qm_z (qm_z (qm_z (qm_u (qm_z (sk_r4 sr) 25 none) 0 1 (some 25)) 26 none) 27 none) 28 none) 27 2 (some 28)) 29 none) 27 3 (some 29)) 30 none) 27 4 (some 30)) 27 0 (some 14)) 26 0 (some 27)) 26 2 (some 25))
def sk_f6_1 (nS : Nat) (φ : qm_F) : qm_F := qm_ff (sk_f5_1 φ) 25 nS 0
def sk_f7_1 (nS : Nat) (φ : qm_F) : qm_F := (qm_ff (qm_z (qm_u (qm_u (qm_u (qm_u (qm_z (qm_z (qm_z (sk_f6_1 nS φ) 31 0) 32 0) 33 0) 31 5 0) 31 6 0) 31 7 0) 31 8 (-1)) 34 0) 32 5 (-1))
def sk_r7_1 (sr : Option Nat) : Nat → Nat → Option Nat := qm_u ((qm_u (qm_z (qm_u (qm_u (qm_u (qm_z (qm_u (qm_z (qm_z (sk_r5_1 sr) 31 none) 32 none) 31 2 (some 32)) 33 none) 31 3 (some 33)) 31 0 (some 14)) 31 1 (some 26)) 34 none) 31 4 (some 34))) 0 2 (some 31)
theorem al_takeFirst_n (d : Nat) (nR nN : Nat) (φ : qm_F) (ρ : Nat → Nat → Option Nat) (x1 : Int32) (hρ : ρ 1 0 = some 2) (h1 : 0 ≤ x1) (h2 : ¬ φ 1 1 < x1) (hN1 : qm_in x1 100000 = true) (hN2 : x1.toNatClampNeg = nN) (hd : 9 ≤ d) :
    qm_Rn d 253 0 [.ref 1, .int x1, .retAddr 0] [] ([(0, 8), (0, 5), (1, 800), (2, nR), (0, 6)], φ, ρ) (some (.ref 5), ([(0, 8), (0, 5), (1, 800), (2, nR), (0, 6), (1, nN)], sk_cp (qm_u φ 1 1 0), qm_z ρ 5 none)) := by
  obtain ⟨d, rfl⟩ : ∃ e, d = e + 1 := ⟨d - 1, by omega⟩
  have hC := qC_253
  have e1 : (if φ 1 1 < x1 then φ 1 1 else x1) = x1 := if_neg h2
  have e2 : (if (0 : Int32) < x1 then x1 else 0) = x1 := by
    split
    · rfl
    · rename_i q
      have a1 := Int32.le_iff_toInt_le.mp h1
      have a2 : ¬ (0 : Int32).toInt < x1.toInt := fun z => q (Int32.lt_iff_toInt_lt.mpr z)
      exact Int32.toInt_inj.mp (by omega)
  refine qr_s hC (n := 4) (pc' := 6) (ls' := [.ref 1, .int x1, .retAddr 0]) (st' := [.int (φ 1 1), .int x1, .int 0]) (h' := ([(0, 8), (0, 5), (1, 800), (2, nR), (0, 6)], φ, ρ)) rfl ?_
  refine qr_p (j := 289) (as := [.int x1, .int (φ 1 1)]) (rest := [.int 0]) (v := some (.int x1)) (h1 := ([(0, 8), (0, 5), (1, 800), (2, nR), (0, 6)], φ, ρ)) hC rfl rfl rfl rfl (by omega) ?_ ?_
  · show some (some (Value.int (if φ 1 1 < x1 then φ 1 1 else x1)), _) = _
    rw [e1]
  show qm_Rn (d + 1) 253 9 [.ref 1, .int x1, .retAddr 0] [.int x1, .int 0] ([(0, 8), (0, 5), (1, 800), (2, nR), (0, 6)], φ, ρ) _
  refine qr_p (j := 288) (as := [.int 0, .int x1]) (rest := []) (v := some (.int x1)) (h1 := ([(0, 8), (0, 5), (1, 800), (2, nR), (0, 6)], φ, ρ)) hC rfl rfl rfl rfl (by omega) ?_ ?_
  · show some (some (Value.int (if (0 : Int32) < x1 then x1 else 0)), _) = _
    rw [e2]
  show qm_Rn (d + 1) 253 12 [.ref 1, .int x1, .retAddr 0] [.int x1] ([(0, 8), (0, 5), (1, 800), (2, nR), (0, 6)], φ, ρ) _
  refine qr_s hC (n := 5) (pc' := 19) (ls' := [.ref 1, .int x1, .int x1]) (st' := [.ref 1]) (h' := ([(0, 8), (0, 5), (1, 800), (2, nR), (0, 6)], qm_u φ 1 1 0, ρ)) rfl ?_
  refine qr_gr (b := 2) hC rfl rfl rfl hρ ?_
  refine qr_s hC (n := 1) (pc' := 23) (ls' := [.ref 1, .int x1, .int x1]) (st' := [.int x1, .ref 2]) (h' := ([(0, 8), (0, 5), (1, 800), (2, nR), (0, 6)], qm_u φ 1 1 0, ρ)) rfl ?_
  refine qr_p (j := 287) (as := [.ref 2, .int x1]) (rest := []) (v := some (.ref 5)) (h1 := ([(0, 8), (0, 5), (1, 800), (2, nR), (0, 6), (1, nN)], sk_cp (qm_u φ 1 1 0), qm_z ρ 5 none)) hC rfl rfl rfl rfl (by omega) ?_ ?_
  · show (if qm_in x1 100000 = true ∧ 800 < 100000 ∧ _ then _ else _) = _
    rw [if_pos ⟨hN1, by decide, by show 5 < 900000; decide⟩, hN2]
    rfl
  exact qr_r hC rfl rfl
/-- a number out of bounds -/
theorem sk_bad_n (d : Nat) (nR : Nat) (sr : Option Nat) (φ : qm_F) (x1 : Int32) (h : x1 < 0 ∨ φ 1 1 < x1) (hd : 2 ≤ d) : qm_Rn d 2 0 [.ref 0, .int x1, .retAddr 0, .retAddr 0, .retAddr 0, .retAddr 0, .retAddr 0] [] (c4 nR [] (sk_R sr) φ) (some (.int (-1)), c4 nR [] (sk_R sr) φ) := by
  obtain ⟨d, rfl⟩ : ∃ e, d = e + 1 := ⟨d - 1, by omega⟩
  have hC := qC_2
  refine qr_s hC (n := 1) (pc' := 1) (ls' := [.ref 0, .int x1, .retAddr 0, .retAddr 0, .retAddr 0, .retAddr 0, .retAddr 0]) (st' := [.int x1]) (h' := c4 nR [] (sk_R sr) φ) rfl ?_
  refine qr_lt1 (tgt := 15) hC rfl (by decide) rfl (fun hc => ?_) (fun hc => ?_)
  · refine qr_s hC (n := 1) (pc' := 16) (ls' := [.ref 0, .int x1, .retAddr 0, .retAddr 0, .retAddr 0, .retAddr 0, .retAddr 0]) (st' := [.int (-1)]) (h' := c4 nR [] (sk_R sr) φ) rfl ?_
    exact qr_r hC rfl rfl
  · refine qr_s hC (n := 3) (pc' := 9) (ls' := [.ref 0, .int x1, .retAddr 0, .retAddr 0, .retAddr 0, .retAddr 0, .retAddr 0]) (st' := [.ref 1, .int x1]) (h' := c4 nR [] (sk_R sr) φ) rfl ?_
    refine qr_c (j := 251) (as := [.ref 1]) (rest := [.int x1]) (v := some (.int (φ 1 1))) (h1 := c4 nR [] (sk_R sr) φ) hC rfl rfl qC_251 rfl rfl (ta_size_n 0 d nR [] (sk_R sr) φ _ (by omega) rfl) ?_
    show qm_Rn (d + 1) 2 12 [.ref 0, .int x1, .retAddr 0, .retAddr 0, .retAddr 0, .retAddr 0, .retAddr 0] [.int (φ 1 1), .int x1] (c4 nR [] (sk_R sr) φ) _
    refine qr_le2 (tgt := 17) hC rfl (by decide) rfl (fun hq => ?_) (fun hq => ?_)
    · rcases h with h | h
      · exact absurd h hc
      · have a1 := Int32.lt_iff_toInt_lt.mp h
        have a2 := Int32.le_iff_toInt_le.mp hq
        exact absurd a1 (by omega)
    · refine qr_s hC (n := 1) (pc' := 16) (ls' := [.ref 0, .int x1, .retAddr 0, .retAddr 0, .retAddr 0, .retAddr 0, .retAddr 0]) (st' := [.int (-1)]) (h' := c4 nR [] (sk_R sr) φ) rfl ?_
      exact qr_r hC rfl rfl
theorem sk_t (nR nN : Nat) (sr : Option Nat) (φ : qm_F) : (([(0, 8), (0, 5), (1, 800), (2, nR), (0, 6), (1, nN), (1, nN + 1), (1, nN + 1), (1, nN + 1), (1, nN + 1)], φ, sk_r2 sr) : qm_H) = ct nR nN [] (sk_r2 sr) φ := by
  unfold ct c4
  rw [ct_id (f := sk_r2 sr) (by intro e he; simp only [c4_L, ct_L, cw_L, cr_L, cs_L, List.mem_cons, List.not_mem_nil, or_false] at he; rcases he with rfl | rfl | rfl | rfl | rfl <;> rfl), c4_id (f := sk_r2 sr) (by intro e he; simp only [c4_L, ct_L, cw_L, cr_L, cs_L, List.mem_cons, List.not_mem_nil, or_false] at he; rcases he with rfl | rfl <;> rfl)]
  rfl
theorem sk_p (nR nN nT : Nat) (sr : Option Nat) (φ : qm_F) : (([(0, 8), (0, 5), (1, 800), (2, nR), (0, 6), (1, nN), (1, nN + 1), (1, nN + 1), (1, nN + 1), (1, nN + 1), (0, 2), (0, 1), (1, 15), (1, 15), (0, 3), (1, 3), (1, 5), (1, 5), (1, 0), (1, 0), (1, nT), (1, nT), (1, nT)], φ, sk_r3 sr) : qm_H) = cw nR nN nT [] (sk_r3 sr) φ := by
  unfold cw ct c4
  rw [cw_id (f := sk_r3 sr) (by intro e he; simp only [c4_L, ct_L, cw_L, cr_L, cs_L, List.mem_cons, List.not_mem_nil, or_false] at he; rcases he with rfl | rfl | rfl | rfl | rfl | rfl | rfl | rfl | rfl | rfl | rfl | rfl <;> rfl), ct_id (f := sk_r3 sr) (by intro e he; simp only [c4_L, ct_L, cw_L, cr_L, cs_L, List.mem_cons, List.not_mem_nil, or_false] at he; rcases he with rfl | rfl | rfl | rfl | rfl <;> rfl), c4_id (f := sk_r3 sr) (by intro e he; simp only [c4_L, ct_L, cw_L, cr_L, cs_L, List.mem_cons, List.not_mem_nil, or_false] at he; rcases he with rfl | rfl <;> rfl)]
  rfl
theorem sk_q (nR nN nT gg : Nat) (sr : Option Nat) (φ : qm_F) : (([(0, 8), (0, 5), (1, 800), (2, nR), (0, 6), (1, nN), (1, nN + 1), (1, nN + 1), (1, nN + 1), (1, nN + 1), (0, 2), (0, 1), (1, 15), (1, 15), (0, 3), (1, 3), (1, 5), (1, 5), (1, 0), (1, 0), (1, nT), (1, nT), (1, nT), (1, gg), (1, gg)], φ, sk_r4 sr) : qm_H) = cr nR nN nT gg [] (sk_r4 sr) φ := by
  unfold cr cw ct c4
  rw [cr_id (f := sk_r4 sr) (by intro e he; simp only [c4_L, ct_L, cw_L, cr_L, cs_L, List.mem_cons, List.not_mem_nil, or_false] at he; rcases he with rfl | rfl <;> rfl), cw_id (f := sk_r4 sr) (by intro e he; simp only [c4_L, ct_L, cw_L, cr_L, cs_L, List.mem_cons, List.not_mem_nil, or_false] at he; rcases he with rfl | rfl | rfl | rfl | rfl | rfl | rfl | rfl | rfl | rfl | rfl | rfl <;> rfl), ct_id (f := sk_r4 sr) (by intro e he; simp only [c4_L, ct_L, cw_L, cr_L, cs_L, List.mem_cons, List.not_mem_nil, or_false] at he; rcases he with rfl | rfl | rfl | rfl | rfl <;> rfl), c4_id (f := sk_r4 sr) (by intro e he; simp only [c4_L, ct_L, cw_L, cr_L, cs_L, List.mem_cons, List.not_mem_nil, or_false] at he; rcases he with rfl | rfl <;> rfl)]
  rfl
/-- up to the end of the reading -/
theorem sk_pre_n (F d : Nat) (nR nN nT : Nat) (sr : Option Nat) (φ : qm_F) (x1 : Int32) (φ2 φ3 : qm_F) (b : Int32) (r : Option Value × qm_H) (hd : 200 ≤ d) (h1 : ¬ x1 < 0) (h2 : ¬ φ 1 1 < x1)
    (hN0 : decide (nN < 2147483648) = true) (hN1 : qm_in x1 100000 = true) (hN2 : x1.toNatClampNeg = nN) (hN3 : qm_in (Int32.ofNat nN + 1) 100000 = true) (hN4 : (Int32.ofNat nN + 1).toNatClampNeg = nN + 1)
    (ht : to_read F nR nN (sk_f2 φ) = some φ2) (hT1 : qm_in (φ2 4 5) 100000 = true) (hT2 : (φ2 4 5).toNatClampNeg = nT)
    (hp : pa_wholeSketch F nR nN nT (sk_f3 φ2) = some (b, φ3))
    (kk : qm_Rn d 2 50 [.ref 0, .int x1, .ref 4, .ref 10, .retAddr 0, .retAddr 0, .retAddr 0] [.int b] (cw nR nN nT [] (sk_r3 sr) φ3) r) : qm_Rn d 2 0 [.ref 0, .int x1, .retAddr 0, .retAddr 0, .retAddr 0, .retAddr 0, .retAddr 0] [] (c4 nR [] (sk_R sr) φ) r := by
  obtain ⟨d, rfl⟩ : ∃ e, d = e + 1 := ⟨d - 1, by omega⟩
  have hC := qC_2
  refine qr_s hC (n := 1) (pc' := 1) (ls' := [.ref 0, .int x1, .retAddr 0, .retAddr 0, .retAddr 0, .retAddr 0, .retAddr 0]) (st' := [.int x1]) (h' := c4 nR [] (sk_R sr) φ) rfl ?_
  refine qr_lt1 (tgt := 15) hC rfl (by decide) rfl (fun hc => absurd hc h1) (fun hc => ?_)
  refine qr_s hC (n := 3) (pc' := 9) (ls' := [.ref 0, .int x1, .retAddr 0, .retAddr 0, .retAddr 0, .retAddr 0, .retAddr 0]) (st' := [.ref 1, .int x1]) (h' := c4 nR [] (sk_R sr) φ) rfl ?_
  refine qr_c (j := 251) (as := [.ref 1]) (rest := [.int x1]) (v := some (.int (φ 1 1))) (h1 := c4 nR [] (sk_R sr) φ) hC rfl rfl qC_251 rfl rfl (ta_size_n 0 d nR [] (sk_R sr) φ _ (by omega) rfl) ?_
  show qm_Rn (d + 1) 2 12 [.ref 0, .int x1, .retAddr 0, .retAddr 0, .retAddr 0, .retAddr 0, .retAddr 0] [.int (φ 1 1), .int x1] (c4 nR [] (sk_R sr) φ) _
  refine qr_le2 (tgt := 17) hC rfl (by decide) rfl (fun hq => ?_) (fun hq => absurd (Int32.le_iff_toInt_le.mpr (by have q := mt Int32.lt_iff_toInt_lt.mpr h2; omega)) hq)
  refine qr_s hC (n := 5) (pc' := 26) (ls' := [.ref 0, .int x1, .retAddr 0, .retAddr 0, .retAddr 0, .retAddr 0, .retAddr 0]) (st' := [.int x1, .ref 1, .ref 4, .ref 4]) (h' := ([(0, 8), (0, 5), (1, 800), (2, nR), (0, 6)], qm_z φ 4 0, qm_z (c4_R (sk_R sr)) 4 none)) rfl ?_
  refine qr_c (j := 253) (as := [.ref 1, .int x1]) (rest := [.ref 4, .ref 4]) (v := some (.ref 5)) (h1 := ([(0, 8), (0, 5), (1, 800), (2, nR), (0, 6), (1, nN)], sk_f1 φ, sk_r1 sr)) hC rfl rfl qC_253 rfl rfl (al_takeFirst_n d nR nN (qm_z φ 4 0) (qm_z (c4_R (sk_R sr)) 4 none) x1 rfl (Int32.le_iff_toInt_le.mpr (by have q := mt Int32.lt_iff_toInt_lt.mpr h1; omega)) h2 hN1 hN2 (by omega)) ?_
  show qm_Rn (d + 1) 2 29 [.ref 0, .int x1, .retAddr 0, .retAddr 0, .retAddr 0, .retAddr 0, .retAddr 0] [.ref 5, .ref 4, .ref 4] ([(0, 8), (0, 5), (1, 800), (2, nR), (0, 6), (1, nN)], sk_f1 φ, sk_r1 sr) _
  refine qr_c (j := 254) (as := [.ref 4, .ref 5]) (rest := [.ref 4]) (v := none) (h1 := ([(0, 8), (0, 5), (1, 800), (2, nR), (0, 6), (1, nN), (1, nN + 1), (1, nN + 1), (1, nN + 1), (1, nN + 1)], sk_f2 φ, sk_r2 sr)) hC rfl rfl qC_254 rfl rfl (al_Tokens_n d nR nN (sk_f1 φ) (sk_r1 sr) hN0 hN3 hN4 (by omega)) ?_
  show qm_Rn (d + 1) 2 32 [.ref 0, .int x1, .retAddr 0, .retAddr 0, .retAddr 0, .retAddr 0, .retAddr 0] [.ref 4] ([(0, 8), (0, 5), (1, 800), (2, nR), (0, 6), (1, nN), (1, nN + 1), (1, nN + 1), (1, nN + 1), (1, nN + 1)], sk_f2 φ, sk_r2 sr) _
  refine qr_s hC (n := 2) (pc' := 34) (ls' := [.ref 0, .int x1, .ref 4, .retAddr 0, .retAddr 0, .retAddr 0, .retAddr 0]) (st' := [.ref 4]) (h' := ([(0, 8), (0, 5), (1, 800), (2, nR), (0, 6), (1, nN), (1, nN + 1), (1, nN + 1), (1, nN + 1), (1, nN + 1)], sk_f2 φ, sk_r2 sr)) rfl ?_
  rw [sk_t]
  refine qr_c (j := 255) (as := [.ref 4]) (rest := []) (v := none) (h1 := ct nR nN [] (sk_r2 sr) φ2) hC rfl rfl qC_255 rfl rfl (to_read_n F d nR nN [] (sk_r2 sr) (sk_f2 φ) _ (by omega) ht) ?_
  rw [← sk_t]
  show qm_Rn (d + 1) 2 37 [.ref 0, .int x1, .ref 4, .retAddr 0, .retAddr 0, .retAddr 0, .retAddr 0] [] ([(0, 8), (0, 5), (1, 800), (2, nR), (0, 6), (1, nN), (1, nN + 1), (1, nN + 1), (1, nN + 1), (1, nN + 1)], φ2, sk_r2 sr) _
  refine qr_s hC (n := 3) (pc' := 42) (ls' := [.ref 0, .int x1, .ref 4, .retAddr 0, .retAddr 0, .retAddr 0, .retAddr 0]) (st' := [.ref 4, .ref 10, .ref 10]) (h' := ([(0, 8), (0, 5), (1, 800), (2, nR), (0, 6), (1, nN), (1, nN + 1), (1, nN + 1), (1, nN + 1), (1, nN + 1), (0, 2)], qm_z φ2 10 0, qm_z (sk_r2 sr) 10 none)) rfl ?_
  refine qr_c (j := 165) (as := [.ref 10, .ref 4]) (rest := [.ref 10]) (v := none) (h1 := ([(0, 8), (0, 5), (1, 800), (2, nR), (0, 6), (1, nN), (1, nN + 1), (1, nN + 1), (1, nN + 1), (1, nN + 1), (0, 2), (0, 1), (1, 15), (1, 15), (0, 3), (1, 3), (1, 5), (1, 5), (1, 0), (1, 0), (1, nT), (1, nT), (1, nT)], sk_f3 φ2, sk_r3 sr)) hC rfl rfl qC_165 rfl rfl (al_Parser_n d nR nN nT (qm_z φ2 10 0) (qm_z (sk_r2 sr) 10 none) hT1 hT2 (by omega)) ?_
  show qm_Rn (d + 1) 2 45 [.ref 0, .int x1, .ref 4, .retAddr 0, .retAddr 0, .retAddr 0, .retAddr 0] [.ref 10] ([(0, 8), (0, 5), (1, 800), (2, nR), (0, 6), (1, nN), (1, nN + 1), (1, nN + 1), (1, nN + 1), (1, nN + 1), (0, 2), (0, 1), (1, 15), (1, 15), (0, 3), (1, 3), (1, 5), (1, 5), (1, 0), (1, 0), (1, nT), (1, nT), (1, nT)], sk_f3 φ2, sk_r3 sr) _
  refine qr_s hC (n := 2) (pc' := 47) (ls' := [.ref 0, .int x1, .ref 4, .ref 10, .retAddr 0, .retAddr 0, .retAddr 0]) (st' := [.ref 10]) (h' := ([(0, 8), (0, 5), (1, 800), (2, nR), (0, 6), (1, nN), (1, nN + 1), (1, nN + 1), (1, nN + 1), (1, nN + 1), (0, 2), (0, 1), (1, 15), (1, 15), (0, 3), (1, 3), (1, 5), (1, 5), (1, 0), (1, 0), (1, nT), (1, nT), (1, nT)], sk_f3 φ2, sk_r3 sr)) rfl ?_
  rw [sk_p]
  refine qr_c (j := 168) (as := [.ref 10]) (rest := []) (v := some (.int b)) (h1 := cw nR nN nT [] (sk_r3 sr) φ3) hC rfl rfl qC_168 rfl rfl (pa_wholeSketch_n F d nR nN nT [] (sk_r3 sr) (sk_f3 φ2) _ (by omega) hp) ?_
  exact kk
theorem sk_fault_n (F d : Nat) (nR nN nT : Nat) (sr : Option Nat) (φ3 : qm_F) (x1 : Int32) (hd : 2 ≤ d) : qm_Rn d 2 50 [.ref 0, .int x1, .ref 4, .ref 10, .retAddr 0, .retAddr 0, .retAddr 0] [.int 0] (cw nR nN nT [] (sk_r3 sr) φ3) (some (.int ((-2) - φ3 10 5)), cw nR nN nT [] (sk_r3 sr) φ3) := by
  obtain ⟨d, rfl⟩ : ∃ e, d = e + 1 := ⟨d - 1, by omega⟩
  have hC := qC_2
  refine qr_ne1 (tgt := 61) hC rfl (by decide) rfl (fun hc => absurd rfl hc) (fun hc => ?_)
  refine qr_s hC (n := 2) (pc' := 56) (ls' := [.ref 0, .int x1, .ref 4, .ref 10, .retAddr 0, .retAddr 0, .retAddr 0]) (st' := [.ref 10, .int (-2)]) (h' := cw nR nN nT [] (sk_r3 sr) φ3) rfl ?_
  refine qr_c (j := 166) (as := [.ref 10]) (rest := [.int (-2)]) (v := some (.int (φ3 10 5))) (h1 := cw nR nN nT [] (sk_r3 sr) φ3) hC rfl rfl qC_166 rfl rfl (pa_fault_n 0 d nR nN nT [] (sk_r3 sr) φ3 _ (by omega) rfl) ?_
  show qm_Rn (d + 1) 2 59 [.ref 0, .int x1, .ref 4, .ref 10, .retAddr 0, .retAddr 0, .retAddr 0] [.int (φ3 10 5), .int (-2)] (cw nR nN nT [] (sk_r3 sr) φ3) _
  refine qr_s hC (n := 1) (pc' := 60) (ls' := [.ref 0, .int x1, .ref 4, .ref 10, .retAddr 0, .retAddr 0, .retAddr 0]) (st' := [.int ((-2) - φ3 10 5)]) (h' := cw nR nN nT [] (sk_r3 sr) φ3) rfl ?_
  exact qr_r hC rfl rfl
theorem al_forget_n (d : Nat) (K : List (Nat × Nat)) (φ : qm_F) (ρ : Nat → Nat → Option Nat) (V q N : Nat) (hk : K[V]? = some (0, 7)) (hv : ρ V 2 = some q) (hq : K[q]? = some (2, N)) (hN : N < 2 ^ 31) (hd : 1 ≤ d) : qm_Rn d 272 0 [.ref V] [] (K, φ, ρ) (none, (K, qm_ff φ q N 0, ρ)) := by
  obtain ⟨d, rfl⟩ : ∃ e, d = e + 1 := ⟨d - 1, by omega⟩
  have hC := qC_272
  refine qr_s hC (n := 1) (pc' := 1) (ls' := [.ref V]) (st' := [.ref V]) (h' := (K, φ, ρ)) rfl ?_
  refine qr_gr (b := q) hC rfl hk rfl hv ?_
  refine qr_s hC (n := 1) (pc' := 5) (ls' := [.ref V]) (st' := [.int 0, .ref q]) (h' := (K, φ, ρ)) rfl ?_
  refine qr_c (j := 281) (as := [.ref q, .int 0]) (rest := []) (v := none) (h1 := (K, qm_ff φ q N 0, ρ)) hC rfl rfl qC_281 rfl rfl (al_fillB_n d K φ ρ q N 0 hq hN) ?_
  exact qr_r hC rfl rfl
set_option maxRecDepth 100000 in
theorem al_rank_n (F d : Nat) (nR nN nT gg : Nat) (sr : Option Nat) (φ φ5 : qm_F) (hG1 : qm_in ((1 : Int32) <<< (φ 14 6 &&& 31)) 100000 = true) (hG2 : ((1 : Int32) <<< (φ 14 6 &&& 31)).toNatClampNeg = gg) (hr : pr_rankGuesses_L21 F nR nN nT gg F 0 (sk_f4 φ) ((1 : Int32) <<< (φ 14 6 &&& 31)) 0 0 = some φ5) (hd : 5 ≤ d) :
    qm_Rn d 211 0 [.ref 14, .retAddr 0, .retAddr 0, .retAddr 0] [] ([(0, 8), (0, 5), (1, 800), (2, nR), (0, 6), (1, nN), (1, nN + 1), (1, nN + 1), (1, nN + 1), (1, nN + 1), (0, 2), (0, 1), (1, 15), (1, 15), (0, 3), (1, 3), (1, 5), (1, 5), (1, 0), (1, 0), (1, nT), (1, nT), (1, nT)], φ, sk_r3 sr) (none, cr nR nN nT gg [] (sk_r4 sr) φ5) := by
  obtain ⟨d, rfl⟩ : ∃ e, d = e + 1 := ⟨d - 1, by omega⟩
  have hC := qC_211
  refine qr_s hC (n := 1) (pc' := 1) (ls' := [.ref 14, .retAddr 0, .retAddr 0, .retAddr 0]) (st' := [.ref 14]) (h' := ([(0, 8), (0, 5), (1, 800), (2, nR), (0, 6), (1, nN), (1, nN + 1), (1, nN + 1), (1, nN + 1), (1, nN + 1), (0, 2), (0, 1), (1, 15), (1, 15), (0, 3), (1, 3), (1, 5), (1, 5), (1, 0), (1, 0), (1, nT), (1, nT), (1, nT)], φ, sk_r3 sr)) rfl ?_
  refine qr_c (j := 201) (as := [.ref 14]) (rest := []) (v := some (.int ((1 : Int32) <<< (φ 14 6 &&& 31)))) (h1 := ([(0, 8), (0, 5), (1, 800), (2, nR), (0, 6), (1, nN), (1, nN + 1), (1, nN + 1), (1, nN + 1), (1, nN + 1), (0, 2), (0, 1), (1, 15), (1, 15), (0, 3), (1, 3), (1, 5), (1, 5), (1, 0), (1, 0), (1, nT), (1, nT), (1, nT)], φ, sk_r3 sr)) hC rfl rfl qC_201 rfl rfl (al_guesses_n d _ φ (sk_r3 sr) rfl) ?_
  generalize hm : (1 : Int32) <<< (φ 14 6 &&& 31) = mm at hG1 hG2 hr ⊢
  refine qr_s hC (n := 3) (pc' := 7) (ls' := [.ref 14, .int mm, .retAddr 0, .retAddr 0]) (st' := [.int mm, .ref 14]) (h' := ([(0, 8), (0, 5), (1, 800), (2, nR), (0, 6), (1, nN), (1, nN + 1), (1, nN + 1), (1, nN + 1), (1, nN + 1), (0, 2), (0, 1), (1, 15), (1, 15), (0, 3), (1, 3), (1, 5), (1, 5), (1, 0), (1, 0), (1, nT), (1, nT), (1, nT)], φ, sk_r3 sr)) rfl ?_
  refine qr_na (kx := 1) (N := gg) (h' := ([(0, 8), (0, 5), (1, 800), (2, nR), (0, 6), (1, nN), (1, nN + 1), (1, nN + 1), (1, nN + 1), (1, nN + 1), (0, 2), (0, 1), (1, 15), (1, 15), (0, 3), (1, 3), (1, 5), (1, 5), (1, 0), (1, 0), (1, nT), (1, nT), (1, nT), (1, gg)], qm_z φ 23 0, qm_z (sk_r3 sr) 23 none)) hC rfl rfl hG1 hG2 rfl rfl ?_
  show qm_Rn _ 211 9 [.ref 14, .int mm, .retAddr 0, .retAddr 0] [.ref 23, .ref 14] ([(0, 8), (0, 5), (1, 800), (2, nR), (0, 6), (1, nN), (1, nN + 1), (1, nN + 1), (1, nN + 1), (1, nN + 1), (0, 2), (0, 1), (1, 15), (1, 15), (0, 3), (1, 3), (1, 5), (1, 5), (1, 0), (1, 0), (1, nT), (1, nT), (1, nT), (1, gg)], qm_z φ 23 0, qm_z (sk_r3 sr) 23 none) _
  refine qr_s hC (n := 3) (pc' := 14) (ls' := [.ref 14, .int mm, .retAddr 0, .retAddr 0]) (st' := [.int mm, .ref 14]) (h' := ([(0, 8), (0, 5), (1, 800), (2, nR), (0, 6), (1, nN), (1, nN + 1), (1, nN + 1), (1, nN + 1), (1, nN + 1), (0, 2), (0, 1), (1, 15), (1, 15), (0, 3), (1, 3), (1, 5), (1, 5), (1, 0), (1, 0), (1, nT), (1, nT), (1, nT), (1, gg)], qm_z φ 23 0, qm_u (qm_z (sk_r3 sr) 23 none) 14 14 (some 23))) rfl ?_
  refine qr_na (kx := 1) (N := gg) (h' := ([(0, 8), (0, 5), (1, 800), (2, nR), (0, 6), (1, nN), (1, nN + 1), (1, nN + 1), (1, nN + 1), (1, nN + 1), (0, 2), (0, 1), (1, 15), (1, 15), (0, 3), (1, 3), (1, 5), (1, 5), (1, 0), (1, 0), (1, nT), (1, nT), (1, nT), (1, gg), (1, gg)], sk_f4 φ, qm_z (qm_u (qm_z (sk_r3 sr) 23 none) 14 14 (some 23)) 24 none)) hC rfl rfl hG1 hG2 rfl rfl ?_
  show qm_Rn _ 211 16 [.ref 14, .int mm, .retAddr 0, .retAddr 0] [.ref 24, .ref 14] ([(0, 8), (0, 5), (1, 800), (2, nR), (0, 6), (1, nN), (1, nN + 1), (1, nN + 1), (1, nN + 1), (1, nN + 1), (0, 2), (0, 1), (1, 15), (1, 15), (0, 3), (1, 3), (1, 5), (1, 5), (1, 0), (1, 0), (1, nT), (1, nT), (1, nT), (1, gg), (1, gg)], sk_f4 φ, qm_z (qm_u (qm_z (sk_r3 sr) 23 none) 14 14 (some 23)) 24 none) _
  refine qr_s hC (n := 3) (pc' := 21) (ls' := [.ref 14, .int mm, .int 0, .retAddr 0]) (st' := []) (h' := ([(0, 8), (0, 5), (1, 800), (2, nR), (0, 6), (1, nN), (1, nN + 1), (1, nN + 1), (1, nN + 1), (1, nN + 1), (0, 2), (0, 1), (1, 15), (1, 15), (0, 3), (1, 3), (1, 5), (1, 5), (1, 0), (1, 0), (1, nT), (1, nT), (1, nT), (1, gg), (1, gg)], sk_f4 φ, sk_r4 sr)) rfl ?_
  rw [sk_q]
  exact pr_rankGuesses_L21_n_t0 F (d + 1) nR nN nT gg [] (sk_r4 sr) (by omega) F (sk_f4 φ) mm 0 0 _ hr
set_option maxRecDepth 100000 in
theorem sk_mid_n (F d : Nat) (nR nN nT gg : Nat) (sr : Option Nat) (φ φ5 : qm_F) (x1 b : Int32) (r : Option Value × qm_H) (hd : 10 ≤ d) (hb : ¬ b = 0) (hG1 : qm_in ((1 : Int32) <<< (φ 14 6 &&& 31)) 100000 = true) (hG2 : ((1 : Int32) <<< (φ 14 6 &&& 31)).toNatClampNeg = gg) (hr : pr_rankGuesses_L21 F nR nN nT gg F 0 (sk_f4 φ) ((1 : Int32) <<< (φ 14 6 &&& 31)) 0 0 = some φ5) (hR : decide (nR < 2147483648) = true) (cc : Int32) (hcc : cc = ((1 : Int32) <<< (φ5 14 6 &&& 31)) * ((1 : Int32) <<< (φ5 14 5 &&& 31)))
    (kk : qm_Rn d 2 92 [.ref 0, .int x1, .ref 4, .ref 10, .ref 14, .int cc, .retAddr 0] [.int cc, .int (Int32.ofNat nR)] ([(0, 8), (0, 5), (1, 800), (2, nR), (0, 6), (1, nN), (1, nN + 1), (1, nN + 1), (1, nN + 1), (1, nN + 1), (0, 2), (0, 1), (1, 15), (1, 15), (0, 3), (1, 3), (1, 5), (1, 5), (1, 0), (1, 0), (1, nT), (1, nT), (1, nT), (1, gg), (1, gg)], φ5, sk_r4 sr) r) : qm_Rn d 2 50 [.ref 0, .int x1, .ref 4, .ref 10, .retAddr 0, .retAddr 0, .retAddr 0] [.int b] (cw nR nN nT [] (sk_r3 sr) φ) r := by
  obtain ⟨d, rfl⟩ : ∃ e, d = e + 1 := ⟨d - 1, by omega⟩
  have hC := qC_2
  refine qr_ne1 (tgt := 61) hC rfl (by decide) rfl (fun hc => ?_) (fun hc => absurd hb hc)
  refine qr_s hC (n := 1) (pc' := 62) (ls' := [.ref 0, .int x1, .ref 4, .ref 10, .retAddr 0, .retAddr 0, .retAddr 0]) (st' := [.ref 10]) (h' := cw nR nN nT [] (sk_r3 sr) φ) rfl ?_
  refine qr_c (j := 167) (as := [.ref 10]) (rest := []) (v := some (.ref 14)) (h1 := cw nR nN nT [] (sk_r3 sr) φ) hC rfl rfl qC_167 rfl rfl (pa_program_n 0 d nR nN nT [] (sk_r3 sr) φ () (by omega) rfl) ?_
  refine qr_s hC (n := 2) (pc' := 69) (ls' := [.ref 0, .int x1, .ref 4, .ref 10, .ref 14, .retAddr 0, .retAddr 0]) (st' := [.ref 14]) (h' := cw nR nN nT [] (sk_r3 sr) φ) rfl ?_
  rw [← sk_p]
  refine qr_c (j := 211) (as := [.ref 14]) (rest := []) (v := none) (h1 := cr nR nN nT gg [] (sk_r4 sr) φ5) hC rfl rfl qC_211 rfl rfl (al_rank_n F d nR nN nT gg sr φ φ5 hG1 hG2 hr (by omega)) ?_
  rw [← sk_q]
  show qm_Rn (d + 1) 2 72 [.ref 0, .int x1, .ref 4, .ref 10, .ref 14, .retAddr 0, .retAddr 0] [] ([(0, 8), (0, 5), (1, 800), (2, nR), (0, 6), (1, nN), (1, nN + 1), (1, nN + 1), (1, nN + 1), (1, nN + 1), (0, 2), (0, 1), (1, 15), (1, 15), (0, 3), (1, 3), (1, 5), (1, 5), (1, 0), (1, 0), (1, nT), (1, nT), (1, nT), (1, gg), (1, gg)], φ5, sk_r4 sr) _
  refine qr_s hC (n := 1) (pc' := 74) (ls' := [.ref 0, .int x1, .ref 4, .ref 10, .ref 14, .retAddr 0, .retAddr 0]) (st' := [.ref 14]) (h' := ([(0, 8), (0, 5), (1, 800), (2, nR), (0, 6), (1, nN), (1, nN + 1), (1, nN + 1), (1, nN + 1), (1, nN + 1), (0, 2), (0, 1), (1, 15), (1, 15), (0, 3), (1, 3), (1, 5), (1, 5), (1, 0), (1, 0), (1, nT), (1, nT), (1, nT), (1, gg), (1, gg)], φ5, sk_r4 sr)) rfl ?_
  refine qr_c (j := 201) (as := [.ref 14]) (rest := []) (v := some (.int ((1 : Int32) <<< (φ5 14 6 &&& 31)))) (h1 := ([(0, 8), (0, 5), (1, 800), (2, nR), (0, 6), (1, nN), (1, nN + 1), (1, nN + 1), (1, nN + 1), (1, nN + 1), (0, 2), (0, 1), (1, 15), (1, 15), (0, 3), (1, 3), (1, 5), (1, 5), (1, 0), (1, 0), (1, nT), (1, nT), (1, nT), (1, gg), (1, gg)], φ5, sk_r4 sr)) hC rfl rfl qC_201 rfl rfl (al_guesses_n d _ φ5 (sk_r4 sr) rfl) ?_
  refine qr_s hC (n := 1) (pc' := 79) (ls' := [.ref 0, .int x1, .ref 4, .ref 10, .ref 14, .retAddr 0, .retAddr 0]) (st' := [.ref 14, .int ((1 : Int32) <<< (φ5 14 6 &&& 31))]) (h' := ([(0, 8), (0, 5), (1, 800), (2, nR), (0, 6), (1, nN), (1, nN + 1), (1, nN + 1), (1, nN + 1), (1, nN + 1), (0, 2), (0, 1), (1, 15), (1, 15), (0, 3), (1, 3), (1, 5), (1, 5), (1, 0), (1, 0), (1, nT), (1, nT), (1, nT), (1, gg), (1, gg)], φ5, sk_r4 sr)) rfl ?_
  refine qr_c (j := 202) (as := [.ref 14]) (rest := [.int ((1 : Int32) <<< (φ5 14 6 &&& 31))]) (v := some (.int ((1 : Int32) <<< (φ5 14 5 &&& 31)))) (h1 := ([(0, 8), (0, 5), (1, 800), (2, nR), (0, 6), (1, nN), (1, nN + 1), (1, nN + 1), (1, nN + 1), (1, nN + 1), (0, 2), (0, 1), (1, 15), (1, 15), (0, 3), (1, 3), (1, 5), (1, 5), (1, 0), (1, 0), (1, nT), (1, nT), (1, nT), (1, gg), (1, gg)], φ5, sk_r4 sr)) hC rfl rfl qC_202 rfl rfl (al_inputs_n d _ φ5 (sk_r4 sr) rfl) ?_
  subst hcc
  refine qr_s hC (n := 4) (pc' := 89) (ls' := [.ref 0, .int x1, .ref 4, .ref 10, .ref 14, .int (((1 : Int32) <<< (φ5 14 6 &&& 31)) * ((1 : Int32) <<< (φ5 14 5 &&& 31))), .retAddr 0]) (st' := [.ref 3]) (h' := ([(0, 8), (0, 5), (1, 800), (2, nR), (0, 6), (1, nN), (1, nN + 1), (1, nN + 1), (1, nN + 1), (1, nN + 1), (0, 2), (0, 1), (1, 15), (1, 15), (0, 3), (1, 3), (1, 5), (1, 5), (1, 0), (1, 0), (1, nT), (1, nT), (1, nT), (1, gg), (1, gg)], φ5, sk_r4 sr)) rfl ?_
  refine qr_al hC rfl rfl hR ?_
  refine qr_s hC (n := 1) (pc' := 92) (ls' := [.ref 0, .int x1, .ref 4, .ref 10, .ref 14, .int (((1 : Int32) <<< (φ5 14 6 &&& 31)) * ((1 : Int32) <<< (φ5 14 5 &&& 31))), .retAddr 0]) (st' := [.int (((1 : Int32) <<< (φ5 14 6 &&& 31)) * ((1 : Int32) <<< (φ5 14 5 &&& 31))), .int (Int32.ofNat nR)]) (h' := ([(0, 8), (0, 5), (1, 800), (2, nR), (0, 6), (1, nN), (1, nN + 1), (1, nN + 1), (1, nN + 1), (1, nN + 1), (0, 2), (0, 1), (1, 15), (1, 15), (0, 3), (1, 3), (1, 5), (1, 5), (1, 0), (1, 0), (1, nT), (1, nT), (1, nT), (1, gg), (1, gg)], φ5, sk_r4 sr)) rfl ?_
  exact kk
set_option maxRecDepth 100000 in
theorem sk_end0_n (d : Nat) (nR nN nT gg : Nat) (sr : Option Nat) (φ5 : qm_F) (x1 cc : Int32) (hd : 10 ≤ d) (hG1 : qm_in ((1 : Int32) <<< (φ5 14 6 &&& 31)) 100000 = true) (hG2 : ((1 : Int32) <<< (φ5 14 6 &&& 31)).toNatClampNeg = gg) (hN : nR < 2 ^ 31) : qm_Rn d 2 103 [.ref 0, .int x1, .ref 4, .ref 10, .ref 14, .int cc, .retAddr 0] [] ([(0, 8), (0, 5), (1, 800), (2, nR), (0, 6), (1, nN), (1, nN + 1), (1, nN + 1), (1, nN + 1), (1, nN + 1), (0, 2), (0, 1), (1, 15), (1, 15), (0, 3), (1, 3), (1, 5), (1, 5), (1, 0), (1, 0), (1, nT), (1, nT), (1, nT), (1, gg), (1, gg)], φ5, (sk_r4 sr)) (some (.int (φ5 14 4)), ([(0, 8), (0, 5), (1, 800), (2, nR), (0, 6), (1, nN), (1, nN + 1), (1, nN + 1), (1, nN + 1), (1, nN + 1), (0, 2), (0, 1), (1, 15), (1, 15), (0, 3), (1, 3), (1, 5), (1, 5), (1, 0), (1, 0), (1, nT), (1, nT), (1, nT), (1, gg), (1, gg), (0, 7), (0, 0), (1, 15), (1, 4), (1, 64), (0, 4), (1, 5), (1, 40), (3, gg)], sk_f7_0 nR φ5, sk_r7_0 sr)) := by
  obtain ⟨d, rfl⟩ : ∃ e, d = e + 1 := ⟨d - 1, by omega⟩
  have hC := qC_2
  refine qr_s hC (n := 5) (pc' := 113) (ls' := [.ref 0, .int x1, .ref 4, .ref 10, .ref 14, .int cc, .retAddr 0]) (st' := [.ref 3, .ref 14, .ref 25, .ref 25]) (h' := ([(0, 8), (0, 5), (1, 800), (2, nR), (0, 6), (1, nN), (1, nN + 1), (1, nN + 1), (1, nN + 1), (1, nN + 1), (0, 2), (0, 1), (1, 15), (1, 15), (0, 3), (1, 3), (1, 5), (1, 5), (1, 0), (1, 0), (1, nT), (1, nT), (1, nT), (1, gg), (1, gg), (0, 7)], qm_z φ5 25 0, qm_z (sk_r4 sr) 25 none)) rfl ?_
  refine qr_c (j := 271) (as := [.ref 25, .ref 14, .ref 3]) (rest := [.ref 25]) (v := none) (h1 := ([(0, 8), (0, 5), (1, 800), (2, nR), (0, 6), (1, nN), (1, nN + 1), (1, nN + 1), (1, nN + 1), (1, nN + 1), (0, 2), (0, 1), (1, 15), (1, 15), (0, 3), (1, 3), (1, 5), (1, 5), (1, 0), (1, 0), (1, nT), (1, nT), (1, nT), (1, gg), (1, gg), (0, 7), (0, 0), (1, 15), (1, 4), (1, 64)], sk_f5_0 φ5, sk_r5_0 sr)) hC rfl rfl qC_271 rfl rfl (al_Verdicts0_n d nR nN nT gg (qm_z φ5 25 0) (qm_z (sk_r4 sr) 25 none) (by omega)) ?_
  refine qr_s hC (n := 2) (pc' := 120) (ls' := [.ref 0, .int x1, .ref 4, .ref 10, .ref 14, .int cc, .ref 25]) (st' := [.ref 25]) (h' := ([(0, 8), (0, 5), (1, 800), (2, nR), (0, 6), (1, nN), (1, nN + 1), (1, nN + 1), (1, nN + 1), (1, nN + 1), (0, 2), (0, 1), (1, 15), (1, 15), (0, 3), (1, 3), (1, 5), (1, 5), (1, 0), (1, 0), (1, nT), (1, nT), (1, nT), (1, gg), (1, gg), (0, 7), (0, 0), (1, 15), (1, 4), (1, 64)], sk_f5_0 φ5, sk_r5_0 sr)) rfl ?_
  refine qr_c (j := 272) (as := [.ref 25]) (rest := []) (v := none) (h1 := ([(0, 8), (0, 5), (1, 800), (2, nR), (0, 6), (1, nN), (1, nN + 1), (1, nN + 1), (1, nN + 1), (1, nN + 1), (0, 2), (0, 1), (1, 15), (1, 15), (0, 3), (1, 3), (1, 5), (1, 5), (1, 0), (1, 0), (1, nT), (1, nT), (1, nT), (1, gg), (1, gg), (0, 7), (0, 0), (1, 15), (1, 4), (1, 64)], sk_f6_0 nR φ5, sk_r5_0 sr)) hC rfl rfl qC_272 rfl rfl (al_forget_n d _ (sk_f5_0 φ5) (sk_r5_0 sr) 25 3 nR rfl rfl rfl hN (by omega)) ?_
  refine qr_s hC (n := 5) (pc' := 132) (ls' := [.ref 0, .int x1, .ref 4, .ref 10, .ref 14, .int cc, .ref 25]) (st' := [.ref 25, .ref 14, .ref 30, .ref 30, .ref 0]) (h' := ([(0, 8), (0, 5), (1, 800), (2, nR), (0, 6), (1, nN), (1, nN + 1), (1, nN + 1), (1, nN + 1), (1, nN + 1), (0, 2), (0, 1), (1, 15), (1, 15), (0, 3), (1, 3), (1, 5), (1, 5), (1, 0), (1, 0), (1, nT), (1, nT), (1, nT), (1, gg), (1, gg), (0, 7), (0, 0), (1, 15), (1, 4), (1, 64), (0, 4)], qm_z (sk_f6_0 nR φ5) 30 0, qm_z (sk_r5_0 sr) 30 none)) rfl ?_
  refine qr_c (j := 222) (as := [.ref 30, .ref 14, .ref 25]) (rest := [.ref 30, .ref 0]) (v := none) (h1 := ([(0, 8), (0, 5), (1, 800), (2, nR), (0, 6), (1, nN), (1, nN + 1), (1, nN + 1), (1, nN + 1), (1, nN + 1), (0, 2), (0, 1), (1, 15), (1, 15), (0, 3), (1, 3), (1, 5), (1, 5), (1, 0), (1, 0), (1, nT), (1, nT), (1, nT), (1, gg), (1, gg), (0, 7), (0, 0), (1, 15), (1, 4), (1, 64), (0, 4), (1, 5), (1, 40), (3, gg)], sk_f7_0 nR φ5, (qm_u (qm_z (qm_u (qm_u (qm_u (qm_z (qm_u (qm_z (qm_z (sk_r5_0 sr) 30 none) 31 none) 30 2 (some 31)) 32 none) 30 3 (some 32)) 30 0 (some 14)) 30 1 (some 25)) 33 none) 30 4 (some 33)))) hC rfl rfl qC_222 rfl rfl (al_Search0_n d nR nN nT gg (qm_z (sk_f6_0 nR φ5) 30 0) (qm_z (sk_r5_0 sr) 30 none) hG1 hG2 (by omega)) ?_
  refine qr_s hC (n := 3) (pc' := 143) (ls' := [.ref 0, .int x1, .ref 4, .ref 10, .ref 14, .int cc, .ref 25]) (st' := [.int (φ5 14 4)]) (h' := ([(0, 8), (0, 5), (1, 800), (2, nR), (0, 6), (1, nN), (1, nN + 1), (1, nN + 1), (1, nN + 1), (1, nN + 1), (0, 2), (0, 1), (1, 15), (1, 15), (0, 3), (1, 3), (1, 5), (1, 5), (1, 0), (1, 0), (1, nT), (1, nT), (1, nT), (1, gg), (1, gg), (0, 7), (0, 0), (1, 15), (1, 4), (1, 64), (0, 4), (1, 5), (1, 40), (3, gg)], sk_f7_0 nR φ5, sk_r7_0 sr)) rfl ?_
  exact qr_r hC rfl rfl
set_option maxRecDepth 100000 in
theorem sk_end1_n (d : Nat) (nR nN nT gg nS : Nat) (sr : Option Nat) (φ5 : qm_F) (x1 cc : Int32) (hd : 10 ≤ d) (hG1 : qm_in ((1 : Int32) <<< (φ5 14 6 &&& 31)) 100000 = true) (hG2 : ((1 : Int32) <<< (φ5 14 6 &&& 31)).toNatClampNeg = gg) (hN : nS < 2 ^ 31) : qm_Rn d 2 103 [.ref 0, .int x1, .ref 4, .ref 10, .ref 14, .int cc, .retAddr 0] [] ([(0, 8), (0, 5), (1, 800), (2, nR), (0, 6), (1, nN), (1, nN + 1), (1, nN + 1), (1, nN + 1), (1, nN + 1), (0, 2), (0, 1), (1, 15), (1, 15), (0, 3), (1, 3), (1, 5), (1, 5), (1, 0), (1, 0), (1, nT), (1, nT), (1, nT), (1, gg), (1, gg), (2, nS)], (qm_z φ5 25 0), (qm_u (qm_z (sk_r4 sr) 25 none) 0 1 (some 25))) (some (.int (φ5 14 4)), ([(0, 8), (0, 5), (1, 800), (2, nR), (0, 6), (1, nN), (1, nN + 1), (1, nN + 1), (1, nN + 1), (1, nN + 1), (0, 2), (0, 1), (1, 15), (1, 15), (0, 3), (1, 3), (1, 5), (1, 5), (1, 0), (1, 0), (1, nT), (1, nT), (1, nT), (1, gg), (1, gg), (2, nS), (0, 7), (0, 0), (1, 15), (1, 4), (1, 64), (0, 4), (1, 5), (1, 40), (3, gg)], sk_f7_1 nS φ5, sk_r7_1 sr)) := by
  obtain ⟨d, rfl⟩ : ∃ e, d = e + 1 := ⟨d - 1, by omega⟩
  have hC := qC_2
  refine qr_s hC (n := 5) (pc' := 113) (ls' := [.ref 0, .int x1, .ref 4, .ref 10, .ref 14, .int cc, .retAddr 0]) (st' := [.ref 25, .ref 14, .ref 26, .ref 26]) (h' := ([(0, 8), (0, 5), (1, 800), (2, nR), (0, 6), (1, nN), (1, nN + 1), (1, nN + 1), (1, nN + 1), (1, nN + 1), (0, 2), (0, 1), (1, 15), (1, 15), (0, 3), (1, 3), (1, 5), (1, 5), (1, 0), (1, 0), (1, nT), (1, nT), (1, nT), (1, gg), (1, gg), (2, nS), (0, 7)], qm_z (qm_z φ5 25 0) 26 0, qm_z (qm_u (qm_z (sk_r4 sr) 25 none) 0 1 (some 25)) 26 none)) rfl ?_
  refine qr_c (j := 271) (as := [.ref 26, .ref 14, .ref 25]) (rest := [.ref 26]) (v := none) (h1 := ([(0, 8), (0, 5), (1, 800), (2, nR), (0, 6), (1, nN), (1, nN + 1), (1, nN + 1), (1, nN + 1), (1, nN + 1), (0, 2), (0, 1), (1, 15), (1, 15), (0, 3), (1, 3), (1, 5), (1, 5), (1, 0), (1, 0), (1, nT), (1, nT), (1, nT), (1, gg), (1, gg), (2, nS), (0, 7), (0, 0), (1, 15), (1, 4), (1, 64)], sk_f5_1 φ5, sk_r5_1 sr)) hC rfl rfl qC_271 rfl rfl (al_Verdicts1_n d nR nN nT gg nS (qm_z (qm_z φ5 25 0) 26 0) (qm_z (qm_u (qm_z (sk_r4 sr) 25 none) 0 1 (some 25)) 26 none) (by omega)) ?_
  refine qr_s hC (n := 2) (pc' := 120) (ls' := [.ref 0, .int x1, .ref 4, .ref 10, .ref 14, .int cc, .ref 26]) (st' := [.ref 26]) (h' := ([(0, 8), (0, 5), (1, 800), (2, nR), (0, 6), (1, nN), (1, nN + 1), (1, nN + 1), (1, nN + 1), (1, nN + 1), (0, 2), (0, 1), (1, 15), (1, 15), (0, 3), (1, 3), (1, 5), (1, 5), (1, 0), (1, 0), (1, nT), (1, nT), (1, nT), (1, gg), (1, gg), (2, nS), (0, 7), (0, 0), (1, 15), (1, 4), (1, 64)], sk_f5_1 φ5, sk_r5_1 sr)) rfl ?_
  refine qr_c (j := 272) (as := [.ref 26]) (rest := []) (v := none) (h1 := ([(0, 8), (0, 5), (1, 800), (2, nR), (0, 6), (1, nN), (1, nN + 1), (1, nN + 1), (1, nN + 1), (1, nN + 1), (0, 2), (0, 1), (1, 15), (1, 15), (0, 3), (1, 3), (1, 5), (1, 5), (1, 0), (1, 0), (1, nT), (1, nT), (1, nT), (1, gg), (1, gg), (2, nS), (0, 7), (0, 0), (1, 15), (1, 4), (1, 64)], sk_f6_1 nS φ5, sk_r5_1 sr)) hC rfl rfl qC_272 rfl rfl (al_forget_n d _ (sk_f5_1 φ5) (sk_r5_1 sr) 26 25 nS rfl rfl rfl hN (by omega)) ?_
  refine qr_s hC (n := 5) (pc' := 132) (ls' := [.ref 0, .int x1, .ref 4, .ref 10, .ref 14, .int cc, .ref 26]) (st' := [.ref 26, .ref 14, .ref 31, .ref 31, .ref 0]) (h' := ([(0, 8), (0, 5), (1, 800), (2, nR), (0, 6), (1, nN), (1, nN + 1), (1, nN + 1), (1, nN + 1), (1, nN + 1), (0, 2), (0, 1), (1, 15), (1, 15), (0, 3), (1, 3), (1, 5), (1, 5), (1, 0), (1, 0), (1, nT), (1, nT), (1, nT), (1, gg), (1, gg), (2, nS), (0, 7), (0, 0), (1, 15), (1, 4), (1, 64), (0, 4)], qm_z (sk_f6_1 nS φ5) 31 0, qm_z (sk_r5_1 sr) 31 none)) rfl ?_
  refine qr_c (j := 222) (as := [.ref 31, .ref 14, .ref 26]) (rest := [.ref 31, .ref 0]) (v := none) (h1 := ([(0, 8), (0, 5), (1, 800), (2, nR), (0, 6), (1, nN), (1, nN + 1), (1, nN + 1), (1, nN + 1), (1, nN + 1), (0, 2), (0, 1), (1, 15), (1, 15), (0, 3), (1, 3), (1, 5), (1, 5), (1, 0), (1, 0), (1, nT), (1, nT), (1, nT), (1, gg), (1, gg), (2, nS), (0, 7), (0, 0), (1, 15), (1, 4), (1, 64), (0, 4), (1, 5), (1, 40), (3, gg)], sk_f7_1 nS φ5, (qm_u (qm_z (qm_u (qm_u (qm_u (qm_z (qm_u (qm_z (qm_z (sk_r5_1 sr) 31 none) 32 none) 31 2 (some 32)) 33 none) 31 3 (some 33)) 31 0 (some 14)) 31 1 (some 26)) 34 none) 31 4 (some 34)))) hC rfl rfl qC_222 rfl rfl (al_Search1_n d nR nN nT gg nS (qm_z (sk_f6_1 nS φ5) 31 0) (qm_z (sk_r5_1 sr) 31 none) hG1 hG2 (by omega)) ?_
  refine qr_s hC (n := 3) (pc' := 143) (ls' := [.ref 0, .int x1, .ref 4, .ref 10, .ref 14, .int cc, .ref 26]) (st' := [.int (φ5 14 4)]) (h' := ([(0, 8), (0, 5), (1, 800), (2, nR), (0, 6), (1, nN), (1, nN + 1), (1, nN + 1), (1, nN + 1), (1, nN + 1), (0, 2), (0, 1), (1, 15), (1, 15), (0, 3), (1, 3), (1, 5), (1, 5), (1, 0), (1, 0), (1, nT), (1, nT), (1, nT), (1, gg), (1, gg), (2, nS), (0, 7), (0, 0), (1, 15), (1, 4), (1, 64), (0, 4), (1, 5), (1, 40), (3, gg)], sk_f7_1 nS φ5, sk_r7_1 sr)) rfl ?_
  exact qr_r hC rfl rfl
