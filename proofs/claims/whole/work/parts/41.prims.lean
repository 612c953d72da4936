/-! THE LIBRARY'S MEMBERS, for the small machine -/
theorem qj_dec {r : qm_R} {en : qm_e} {pc j : Nat} {ls st as rest : List Value} {h : qm_H} (hok : qm_eOK r en) (hln : qm_sw en.1 = true ∨ en.2.1 = qm_len en.1) (hs : qm_x r.2.2.2.2.2.1 en pc ls st h = some (.inr (.inr (j, as, rest)))) (hjN : qm_NM ≤ j) :
    ∃ (idx : Nat) (rj : qm_R), qm_m j = some rj ∧ en.2.1 = 3 ∧ Cond.methodLink (qm_oR r.2.2.2.2.1) idx rj.1 ∈ lw_tbl ∧ qm_cat rest ≤ 8 ∧
      ((en.1 = .invokestatic idx ∧ Cond.static rj.1 ∈ lw_tbl ∧ qm_np rj as.length ∧ st = as.reverse ++ rest) ∨
       (en.1 = .invokevirtual idx ∧ Cond.instanceMethod rj.1 ∈ lw_tbl ∧ Cond.selects rj.1.cls rj.1 rj.1 ∈ lw_tbl ∧ ∃ (b : Nat) (as' : List Value), as = .ref b :: as' ∧ qm_np rj as'.length ∧ st = as'.reverse ++ .ref b :: rest)) := by
  obtain ⟨i, len, ea, eb, et⟩ := en
  dsimp only at hln
  cases i with
  | invokestatic idx =>
    obtain rfl : len = 3 := hln.resolve_left (fun q => by cases q)
    simp only [qm_x] at hs
    split at hs
    · rename_i hc
      obtain ⟨hc1, hc2⟩ := hc
      cases hs
      obtain ⟨rj, w1, w2, w3, w4⟩ := hok
      dsimp only at w1 w2 w3 w4
      refine ⟨idx, rj, w1, rfl, w3, hc2, Or.inl ⟨rfl, w4, ?_, ?_⟩⟩
      · rw [List.length_reverse, List.length_take, Nat.min_eq_left hc1]; exact w2
      · rw [List.reverse_reverse, List.take_append_drop]
    · cases hs
  | invokevirtual idx =>
    obtain rfl : len = 3 := hln.resolve_left (fun q => by cases q)
    simp only [qm_x] at hs
    split at hs
    · rename_i b r0 hdr
      split at hs
      · rename_i hc
        obtain ⟨hc1, hc2⟩ := hc
        cases hs
        obtain ⟨rj, w1, w2, w3, w4, w5, w6, w7⟩ := hok
        dsimp only at w1 w2 w3 w4 w5 w6 w7
        refine ⟨idx, rj, w1, rfl, w3, hc1, Or.inr ⟨rfl, w4, w5, b, _, rfl, ?_, ?_⟩⟩
        · have := (qm_stk (ad := id) hdr).2
          rw [List.length_map] at this
          rw [this]; exact w2
        · rw [List.reverse_reverse, ← hdr, List.take_append_drop]
      · cases hs
    · cases hs
  | invokespecial idx =>
    obtain rfl : len = 3 := hln.resolve_left (fun q => by cases q)
    simp only [qm_x] at hs
    split at hs
    · split at hs
      · split at hs <;> cases hs
      · cases hs
    · rename_i h999
      split at hs
      · rename_i b r0 hdr
        split at hs
        · cases hs
          obtain ⟨rj', w1, w2, w3, w4, w5, w6, w7⟩ := hok.2 h999
          dsimp only at w5
          omega
        · cases hs
      · cases hs
  | _ =>
    simp only [qm_x, qm_nx, qm_go] at hs
    repeat' split at hs
    all_goals cases hs
theorem qj_np {r : qm_R} {a b : Nat} (h1 : qm_np r a) (h2 : qm_np r b) : a = b := Option.some.inj (h1.symm.trans h2)
def qj_f (a : Nat) : Nat → Int32 := fun j => Int32.ofNat ((qm_str a).getD j 0)
def qj_Y (ad : Nat → Nat) (Af : Nat → Prop) (s : State) : Prop := ∀ a, qm_str a ≠ [] → ∃ V, qj_X (ad a) V (qm_str a).length (qj_f a) Af s s.heap
theorem qj_len (a : Nat) : (qm_str a).length < 100 := by
  unfold qm_str
  split
  · decide
  · split <;> decide
theorem qj_asc (a : Nat) : ∀ b ∈ qm_str a, b < 128 := by
  unfold qm_str
  split
  · decide
  · split
    · decide
    · exact fun b h => absurd h List.not_mem_nil
theorem qj_asc' (a k : Nat) : (qm_str a).getD k 0 < 128 := by
  rw [List.getD_eq_getElem?_getD]
  cases h : (qm_str a)[k]? with
  | none => decide
  | some b => exact qj_asc a b (List.mem_of_getElem? h)
theorem qj_chr : ∀ b : Nat, b < 128 → ((Int32.ofNat b &&& 255).toUInt32 % 65536).toInt32 = Int32.ofNat b ∧ narrow .char (.int (Int32.ofNat b)) = .int (Int32.ofNat b) := by decide +kernel
theorem qj_byq : ∀ q : Nat, q < 256 → qm_by (Int32.ofNat q) = Int32.ofNat q ∨ (128 ≤ q ∧ qm_by (Int32.ofNat q) < 0) := by decide +kernel
theorem qj_ixN (c : Int32) : ∀ (L : List Nat) (k : Nat), (∀ b ∈ L, Int32.ofNat b ≠ c) → qm_ixF c L k = -1
  | [], _, _ => rfl
  | b :: L, k, h => by
    unfold qm_ixF
    rw [if_neg (h b List.mem_cons_self)]
    exact qj_ixN c L (k + 1) (fun q hq => h q (List.mem_cons_of_mem _ hq))
theorem qj_b31 {a b : Nat} (ha : a < 2 ^ 31) (hb : b < 2 ^ 31) (h : Int32.ofNat a = Int32.ofNat b) : a = b := by
  have := congrArg Int32.toNatClampNeg h
  rwa [qj_nn ha, qj_nn hb] at this
theorem qj_ixE (L : List Nat) (hL : ∀ b ∈ L, b < 128) (q : Nat) (hq : q < 256) : ∀ (n k : Nat), k + n = L.length → qj_ix (fun j => Int32.ofNat (L.getD j 0)) (qm_by (Int32.ofNat q)) n k = qm_ixF (Int32.ofNat q) (L.drop k) k := by
  intro n
  induction n with
  | zero =>
    intro k hk
    rw [List.drop_eq_nil_of_le (by omega)]
    rfl
  | succ n ih =>
    intro k hk
    have hlt : k < L.length := by omega
    rw [List.drop_eq_getElem_cons hlt]
    unfold qj_ix qm_ixF
    have hg : L.getD k 0 = L[k] := by rw [List.getD_eq_getElem?_getD, List.getElem?_eq_getElem hlt]; rfl
    have hb : L[k] < 128 := hL _ (List.getElem_mem hlt)
    rw [hg, ih (k + 1) (by omega)]
    have e : (Int32.ofNat L[k] = qm_by (Int32.ofNat q)) ↔ (Int32.ofNat L[k] = Int32.ofNat q) := by
      rcases qj_byq q hq with h | ⟨h1, h2⟩
      · rw [h]
      · constructor
        · intro z
          rw [← z] at h2
          have : ¬ Int32.ofNat L[k] < Int32.ofNat 0 := by
            rw [Int32.ofNat_lt_iff_lt (by omega) (by omega)]; omega
          exact absurd h2 this
        · intro z
          have := qj_b31 (by omega) (by omega) z
          omega
    by_cases z : Int32.ofNat L[k] = Int32.ofNat q
    · rw [if_pos z, if_pos (e.mpr z)]
    · rw [if_neg z, if_neg (fun y => z (e.mp y))]
theorem qj_ixS (a : Nat) (c : Int32) : qj_ixR (qj_f a) (qm_str a).length c = qm_ixF c (qm_str a) 0 := by
  unfold qj_ixR
  have hasc := qj_asc a
  by_cases h1 : c < 0
  · rw [if_pos h1, qj_ixN]
    intro b hb z
    rw [← z] at h1
    have hb' := hasc b hb
    have : ¬ Int32.ofNat b < Int32.ofNat 0 := by
      rw [Int32.ofNat_lt_iff_lt (by omega) (by omega)]; omega
    exact this h1
  · rw [if_neg h1]
    by_cases h2 : 255 < c
    · rw [if_pos h2, qj_ixN]
      intro b hb z
      rw [← z] at h2
      have hb' := hasc b hb
      have : ¬ Int32.ofNat 255 < Int32.ofNat b := by
        rw [Int32.ofNat_lt_iff_lt (by omega) (by omega)]; omega
      exact this h2
    · rw [if_neg h2]
      obtain ⟨q, hq, rfl⟩ : ∃ q, q < 2 ^ 31 ∧ c = Int32.ofNat q := by
        refine qj_of (N := 2 ^ 31) ?_
        rintro (z | z)
        · exact h1 z
        · have := c.toInt_lt
          unfold Int32.toNatClampNeg at z; omega
      have hq2 : q < 256 := by
        have : ¬ Int32.ofNat 255 < Int32.ofNat q := h2
        rw [Int32.ofNat_lt_iff_lt (by omega) hq] at this; omega
      have := qj_ixE (qm_str a) hasc q hq2 (qm_str a).length 0 (by omega)
      rw [List.drop_zero] at this
      exact this
section QMP
variable {p : Program} {l : Launch} {e : Env} {R : Room} {s : State} {m : MethodId} {args : Array Value} {below : List Frame} {meth : Method} {c : Code} {H : Heap} {locs : List Loc} {cells slots : Nat} {Q : State → Prop}
variable {D : va_G} {G : ClassId × ClassId × ClassId} {ad : Nat → Nat} {Af : Nat → Prop} {Xp : State → Prop}
/-- a member of String, called -/
theorem qj_callV {r rj : qm_R} {en : qm_e} {pc j a V N d : Nat} {f : Nat → Int32} {ls st as rest : List Value} {h : qm_H} {v : Option Value} {lsR : Array Slot}
    (X : qm_X p s m args meth c r) (hd : decode r.2.1 pc = .ok (en.1, en.2.1)) (hok : qm_eOK r en) (hln : qm_sw en.1 = true ∨ en.2.1 = qm_len en.1) (hX : qj_X (ad a) V N f Af s s.heap) (hJ : qm_J D G ad Af s.heap H locs h) (hl : qm_L ad lsR r.2.2.1 ls)
    (hs : qm_x r.2.2.2.2.2.1 en pc ls st h = some (.inr (.inr (j, .ref a :: as, rest)))) (hjN : qm_NM ≤ j) (hmj : qm_m j = some rj) (hnp : qm_np rj as.length) (hcls : rj.1.cls = "java/lang/String")
    (hM : Met l rj.1 (Cond.code rj.1 rj.2.1 rj.2.2.1 rj.2.2.2.1 :: qm_T) (qm_rm d 0 0) (qj_P (ad a) V N f (.ref (ad a) :: as.map (qm_cv ad))) (qj_Q (v.map (qm_cv ad))) 0 0 (fun _ => False))
    (hRf : d + 2 ≤ R.frames) (hRl : 40 * d + 80 ≤ R.locals) (hC : cells ≤ R.cells) (hSl : slots ≤ R.slots)
    (kk : W p l e R s m args below meth c H locs cells slots Q (F0 m (pc + 3) lsR ((v.toList ++ rest).map (qm_cv ad)))) :
    W p l e R s m args below meth c H locs cells slots Q (F0 m pc lsR (st.map (qm_cv ad))) := by
  obtain ⟨idx, rj', w1, hlen, hlk, hcat, q⟩ := qj_dec hok hln hs hjN
  cases hmj.symm.trans w1
  obtain ⟨hjk, -⟩ := qk_m j rj hmj
  obtain ⟨j1, j2, j3, j4, j5, j6, -⟩ := id hjk
  obtain ⟨hx, hb, hml, hr, hown, hts, hlk0, hnm, hnw⟩ := X
  rw [hlen] at hd
  have hS := hJ.2.2.1
  have hcat' : ((rest.map (qm_cv ad)).map fun v => v.category).sum ≤ 8 := by
    have := qm_cat_map ad rest
    unfold qm_cat at this hcat
    rw [this]; exact hcat
  rcases q with ⟨hi, hst, hn2, hstk⟩ | ⟨hi, hin, hse, b, as', has, hn2, hstk⟩
  · have := qj_np hnp hn2
    simp at this
  · cases has
    rw [hi] at hd
    have hO := hX.1.kept (fun q h1 h2 => hS.2.1 q h1 h2)
    have hst : st.map (qm_cv ad) = (as.map (qm_cv ad)).reverse ++ .ref (ad a) :: rest.map (qm_cv ad) := by
      rw [hstk, List.map_append, List.map_reverse]; rfl
    rw [hst]
    refine qj_cV (As := as.map (qm_cv ad)) (rest := rest.map (qm_cv ad)) (b := ad a) (n := as.length) (d := d) hx hb hml hown hts hM j1 j2 hlk hin hse ⟨j3.1, j3.2, hnp⟩ j5 (List.length_map _) ⟨qj_blind _ _ _ _ _, ?_, qj_pre hX hS _⟩ hl.1 hcat' hRf hRl hC hSl hd ?_
    · rw [hcls]
      exact ⟨hO.choose, hO.choose_spec.1, hO.choose_spec.2.1, hO.choose_spec.2.2.1⟩
    · rw [List.map_append] at kk
      cases v <;> exact kk
/-- Math.max, Math.min -/
theorem qj_callM {r : qm_R} {en : qm_e} {pc j : Nat} {ls st rest : List Value} {h : qm_H} {x y : Int32} {lsR : Array Slot}
    (X : qm_X p s m args meth c r) (hd : decode r.2.1 pc = .ok (en.1, en.2.1)) (hok : qm_eOK r en) (hln : qm_sw en.1 = true ∨ en.2.1 = qm_len en.1) (hl : qm_L ad lsR r.2.2.1 ls)
    (hs : qm_x r.2.2.2.2.2.1 en pc ls st h = some (.inr (.inr (j, [.int x, .int y], rest)))) (hj : j = 288 ∨ j = 289) (hRf : 1 ≤ R.frames) (hRl : 400 ≤ R.locals) (hC : cells ≤ R.cells) (hSl : slots ≤ R.slots)
    (kk : W p l e R s m args below meth c H locs cells slots Q (F0 m (pc + 3) lsR (.int (if j = 288 then (if x < y then y else x) else (if y < x then y else x)) :: rest.map (qm_cv ad)))) :
    W p l e R s m args below meth c H locs cells slots Q (F0 m pc lsR (st.map (qm_cv ad))) := by
  obtain ⟨idx, rj, w1, hlen, hlk, hcat, q⟩ := qj_dec hok hln hs (by unfold qm_NM; omega)
  obtain ⟨hjk, -⟩ := qk_m j rj w1
  obtain ⟨j1, j2, j3, j4, j5, j6, -⟩ := id hjk
  obtain ⟨hx, hb, hml, hr, hown, hts, hlk0, hnm, hnw⟩ := X
  rw [hlen] at hd
  have hcat' : ((rest.map (qm_cv ad)).map fun v => v.category).sum ≤ 8 := by
    have := qm_cat_map ad rest
    unfold qm_cat at this hcat
    rw [this]; exact hcat
  rcases q with ⟨hi, hst, hn2, hstk⟩ | ⟨hi, hin, hse, b, as', has, hn2, hstk⟩
  · rw [hi] at hd
    have e : st.map (qm_cv ad) = .int y :: .int x :: rest.map (qm_cv ad) := by rw [hstk]; rfl
    rw [e]
    rcases hj with rfl | rfl
    · cases (show some (yJ9_max_7cf53, cJ9_max_7cf53, 2, some .int, 20, 7, []) = some rj from w1)
      exact va_mmax hx hb (hml.trans hl.1.symm) hown (hts _ (qw_T hlk rfl)) (hts _ (qw_T hst rfl)) (hts _ (qw_T j2 rfl)) (hts _ (qw_T (qw_at 219 (by decide +kernel)) rfl)) hRf (by omega) hC hSl hd kk
    · cases (show some (yJ9_min_7cf53, cJ9_min_7cf53, 2, some .int, 20, 7, []) = some rj from w1)
      exact va_mmin hx hb (hml.trans hl.1.symm) hown (hts _ (qw_T hlk rfl)) (hts _ (qw_T hst rfl)) (hts _ (qw_T j2 rfl)) (hts _ (qw_T (qw_at 216 (by decide +kernel)) rfl)) hRf (by omega) hC hSl hd kk
  · cases has
/-- the members that make nothing -/
theorem qj_prims (hY : ∀ s, Xp s → qj_Y ad Af s) (hcp : ∀ (p : Program) (e : Env) (R : Room) (s : State) (m : MethodId) (args : Array Value) (below : List Frame) (meth : Method) (c : Code) (H : Heap) (locs : List Loc) (cells slots : Nat) (Q : State → Prop) (r : qm_R) (en : qm_e) (pc : Nat) (ls st : List Value) (h h1 : qm_H) (lsR : Array Slot) (a : Nat) (n : Int32) (rest : List Value) (v : Option Value),
    qm_X p s m args meth c r → decode r.2.1 pc = .ok (en.1, en.2.1) → qm_eOK r en → (qm_sw en.1 = true ∨ en.2.1 = qm_len en.1) → va_K D vwCl (qm_tys G) s → (∀ q, s.heap.size ≤ q → Af q) → Xp s → qm_J D G ad Af s.heap H locs h → qm_L ad lsR r.2.2.1 ls →
    qm_x r.2.2.2.2.2.1 en pc ls st h = some (.inr (.inr (287, [.ref a, .int n], rest))) → qm_p 287 [.ref a, .int n] h = some (v, h1) → 10 ≤ R.frames → 400 ≤ R.locals → cells + (h1.1.length - h.1.length) ≤ R.cells → slots + (qm_sl h1.1 - qm_sl h.1) ≤ R.slots →
    (∀ (H' : Heap) (locs' : List Loc), qm_J D G ad Af s.heap H' locs' h1 → W p l e R s m args below meth c H' locs' (cells + (h1.1.length - h.1.length)) (slots + (qm_sl h1.1 - qm_sl h.1)) Q (F0 m (pc + 3) lsR ((v.toList ++ rest).map (qm_cv ad)))) →
    W p l e R s m args below meth c H locs cells slots Q (F0 m pc lsR (st.map (qm_cv ad)))) : qm_PR l D G ad Af Xp := by
  intro p e R s m args below meth c H locs cells slots Q r en pc ls st h h1 lsR j as rest v X hd hok hln hK hA hXp hJ hl hs hjN hp hRf hRl hC hSl kk
  obtain ⟨k, rfl⟩ : ∃ k, j = 284 + k := ⟨j - 284, by unfold qm_NM at hjN; omega⟩
  have hp0 := hp
  unfold qm_p at hp
  rw [show 284 + k - qm_NM = k from by unfold qm_NM; omega] at hp
  split at hp
  · rename_i a
    split at hp
    · cases hp
    · rename_i hne
      cases hp
      obtain ⟨V, hX⟩ := hY s hXp a hne
      rw [Nat.sub_self, Nat.add_zero] at hC kk
      rw [Nat.sub_self, Nat.add_zero] at hSl kk
      exact qj_callV (as := []) (rj := (yJ0_length_8abf5, cJ0_length_8abf5, 1, some .int, 23, 7, [])) (d := 8) (v := some (.int (Int32.ofNat (qm_str a).length))) X hd hok hln hX hJ hl hs hjN (by rfl) (by decide +kernel) rfl (cj_length l (ad a) V (qm_str a).length (qj_f a) (Nat.lt_trans (qj_len a) (by decide)) 8 (by decide)) hRf hRl hC hSl (kk H locs hJ)
  · rename_i a i
    split at hp
    · rename_i hin
      cases hp
      have hin' : vp_in i (qm_str a).length := by
        unfold qm_in at hin
        simp at hin
        rintro (z | z)
        · exact absurd z (Int32.not_lt.mpr hin.1)
        · omega
      obtain ⟨k, hk, rfl⟩ := qj_of hin'
      have hlen := qj_len a
      have hne : qm_str a ≠ [] := fun z => by rw [z] at hk; exact absurd hk (Nat.not_lt_zero _)
      obtain ⟨V, hX⟩ := hY s hXp a hne
      rw [Nat.sub_self, Nat.add_zero] at hC kk
      rw [Nat.sub_self, Nat.add_zero] at hSl kk
      rw [qj_nn (by omega)] at kk
      obtain ⟨c1, c2⟩ := qj_chr _ (qj_asc' a k)
      have hN : (qm_str a).length < 2 ^ 31 := Nat.lt_trans hlen (by decide)
      have hc := cj_charAt l (ad a) V (qm_str a).length (qj_f a) k hN hk (Int32.ofNat ((qm_str a).getD k 0)) c1 c2 8 (by decide)
      exact qj_callV (as := [.int (Int32.ofNat k)]) (rj := (yJ0_charAt_5068e, cJ0_charAt_5068e, 2, some .char, 23, 7, [])) (d := 8) (v := some (.int (Int32.ofNat ((qm_str a).getD k 0)))) X hd hok hln hX hJ hl hs hjN (by rfl) (show qm_np ((yJ0_charAt_5068e, cJ0_charAt_5068e, 2, some .char, 23, 7, []) : qm_R) 1 from by decide +kernel) rfl hc hRf hRl hC hSl (kk H locs hJ)
    · cases hp
  · rename_i a i
    split at hp
    · cases hp
    · rename_i hne
      cases hp
      have hlen := qj_len a
      obtain ⟨V, hX⟩ := hY s hXp a hne
      rw [Nat.sub_self, Nat.add_zero] at hC kk
      rw [Nat.sub_self, Nat.add_zero] at hSl kk
      have hc := cj_ix1 l (ad a) V _ (qj_f a) i (Nat.lt_trans hlen (by decide)) (List.length_pos_iff.mpr hne) 8 (by decide)
      rw [qj_ixS] at hc
      exact qj_callV (as := [.int i]) (rj := (yJ0_indexOf_0f7a4, cJ0_indexOf_0f7a4, 2, some .int, 23, 7, [])) (d := 8) (v := some (.int (qm_ixF i (qm_str a) 0))) X hd hok hln hX hJ hl hs hjN (by rfl) (show qm_np ((yJ0_indexOf_0f7a4, cJ0_indexOf_0f7a4, 2, some .int, 23, 7, []) : qm_R) 1 from by decide +kernel) rfl hc hRf hRl hC hSl (kk H locs hJ)
  · rename_i a n
    exact hcp p e R s m args below meth c H locs cells slots Q r en pc ls st h h1 lsR a n rest v X hd hok hln hK hA hXp hJ hl hs hp0 hRf hRl hC hSl kk
  · cases hp
    rw [Nat.sub_self, Nat.add_zero] at hC kk
    rw [Nat.sub_self, Nat.add_zero] at hSl kk
    exact qj_callM X hd hok hln hl hs (Or.inl rfl) (by omega) hRl hC hSl (kk H locs hJ)
  · cases hp
    rw [Nat.sub_self, Nat.add_zero] at hC kk
    rw [Nat.sub_self, Nat.add_zero] at hSl kk
    exact qj_callM X hd hok hln hl hs (Or.inr rfl) (by omega) hRl hC hSl (kk H locs hJ)
  · cases hp
end QMP
