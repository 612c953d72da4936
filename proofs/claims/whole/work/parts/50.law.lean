/-! CALLS OUT OF THE LAW -/
def qL_Xp (ad : Nat → Nat) (Af : Nat → Prop) (U : State) : Prop := qm_Xs ad U ∧ qj_Y ad Af U
theorem qL_Xp.to {ad : Nat → Nat} {Af : Nat → Prop} {s U : State} (hW : s.WarmedH U.vm) (hk : ∀ q : Nat, q < s.heap.size → ¬ Af q → U.heap[q]? = s.heap[q]?) (h : qL_Xp ad Af s) : qL_Xp ad Af U := by
  refine ⟨⟨h.1.1.warm hW, h.1.2.warm hW⟩, fun a ha => ?_⟩
  obtain ⟨V, hV⟩ := h.2 a ha
  exact ⟨V, (hV.moved hW.alike).kept hk⟩
theorem qL_XP (ad : Nat → Nat) (Af : Nat → Prop) : qm_XP ad Af (qL_Xp ad Af) := by
  refine ⟨fun s U hW _ hk h => h.to hW hk, fun s h => h.1, fun U g mk a h => ⟨⟨vk_R.same (u := U) (U := U.calling g mk a) rfl h.1.1, vk_R.same (u := U) (U := U.calling g mk a) rfl h.1.2⟩, fun b hb => ?_⟩⟩
  obtain ⟨V, hV⟩ := h.2 b hb
  exact ⟨V, qj_X.moved (u := U) (U := U.calling g mk a) (Vm.Alike.refl U.vm) hV⟩
section QL
variable {p : Program} {l : Launch} {e : Env} {R : Room} {s : State} {m : MethodId} {args : Array Value} {below : List Frame} {meth : Method} {c : Code} {H : Heap} {locs : List Loc} {cells slots : Nat} {Q : State → Prop}
variable {D : va_G} {G : ClassId × ClassId × ClassId} {ad : Nat → Nat} {Af : Nat → Prop} {cc : ByteArray} {pc nL : Nat} {ls : Array Slot} {rest : List Value} {own : String}
/-- a run of the small machine is a contract -/
theorem qL_met {d k : Nat} {r : qm_R} {as : List Value} {h h' : qm_H} {v : Option Value} (hm : qm_m k = some r) (hfit : qm_cat as ≤ r.2.2.1) (hrun : qm_Rn d k 0 (qm_el r.2.2.1 as) [] h (v, h')) :
    Met l r.1 (Cond.code r.1 r.2.1 r.2.2.1 r.2.2.2.1 :: qm_T) (qm_rm d (h'.1.length - h.1.length) (qm_sl h'.1 - qm_sl h.1)) (qm_Pc D G ad Af (qL_Xp ad Af) as h) (qm_Qc D G ad Af v h') (h'.1.length - h.1.length) (qm_sl h'.1 - qm_sl h.1) Af := by
  obtain ⟨f, hf⟩ := hrun
  exact qm_met0 (qm_sim qk_m (qL_XP ad Af) (qj_PR (qL_XP ad Af) (fun s hs => hs.2)) f) (qk_m k r hm).1 hm hfit hf
theorem qL_cont {st0 rest' : List Value} {h1 : qm_H} {v : Option Value} {mc ms : Nat} {a : Array Value} (hr : va_Run p l e R s m args below meth c H locs cells slots mc ms (F0 m pc ls st0) rest' (qm_Qc D G ad Af v h1 a) Af)
    (kk : ∀ (H' : Heap) (locs' : List Loc), H.size ≤ H'.size → (∀ q, q < H.size → ¬ Af q → H'[q]? = H[q]?) → va_P D vwCl (qm_W G ad h1) H' → va_D Af (qm_W G ad h1) → (∀ a, h1.1.length ≤ a → a < 1000000 → ad a = H'.size + (a - h1.1.length)) → (∀ q ∈ locs', q ∈ locs ∨ Af q.base) → W p l e R s m args below meth c H' locs' (cells + mc) (slots + ms) Q (F0 m (pc + 3) ls ((v.map (qm_cv ad)).toList ++ rest'))) : W p l e R s m args below meth c H locs cells slots Q (F0 m pc ls st0) := by
  intro T hT X
  obtain ⟨v', st₀, t, T', L, h0, X', hL, e1, e2, ⟨hv, q1, q2, q3, hz, hk⟩, st⟩ := hr T hT X
  have hv' := Outcome.returned.inj hv
  subst hv'
  rw [h0] at hz hk
  obtain ⟨t2, a1, b1⟩ := kk T'.heap (locs ++ L) (by rw [e1]; exact hz) (fun q g1 g2 => by rw [e1]; exact hk q g1 g2) (by rw [e1]; exact q1) q2 (by rw [e1]; exact q3) (fun q hq => by
      rcases List.mem_append.mp hq with h | h
      · exact Or.inl h
      · exact Or.inr (hL q h)) T' rfl X'
  exact ⟨t2, st t2 a1, b1⟩
/-- a method of an object at the world's cell 0, called by the law -/
theorem qL_callV {d k ci index : Nat} {r : qm_R} {as : List Value} {h h' : qm_H} {v : Option Value} (hx : p.tables.exec = Jvm.exec) (hb : c.code = cc) (hml : c.maxLocals = nL) (hown : s.vm.findClass own = some m.cls) (hts : ∀ w ∈ qm_T, w.before args s = true) (hnw : qm_nw s)
    (hm : qm_m k = some r) (hfit : qm_cat (.ref 0 :: as) ≤ r.2.2.1) (hrun : qm_Rn d k 0 (qm_el r.2.2.1 (.ref 0 :: as)) [] h (v, h')) (hci : ci < 10) (hcls : r.1.cls = qm_cR ci) (hk0 : h.1[0]? = some (0, ci)) (hlk : Cond.methodLink own index r.1 ∈ lw_tbl) (hin : Cond.instanceMethod r.1 ∈ lw_tbl) (hse : Cond.selects r.1.cls r.1 r.1 ∈ lw_tbl) (hnp : qm_np r as.length)
    (hK : va_K D vwCl (qm_tys G) s) (hP : va_P D vwCl (qm_W G ad h) H) (hD : va_D Af (qm_W G ad h)) (hz : ∀ a, h.1.length ≤ a → a < 1000000 → ad a = H.size + (a - h.1.length)) (hA : ∀ q, H.size ≤ q → Af q) (hXp : ∀ U : State, U.heap = H → s.WarmedH U.vm → qL_Xp ad Af U)
    (hsz : ls.size = nL) (hcat : (rest.map fun v => v.category).sum ≤ 8) (hRf : d + 2 ≤ R.frames) (hRl : 40 * d + 80 ≤ R.locals) (hC : cells + (h'.1.length - h.1.length) ≤ R.cells) (hSl : slots + (qm_sl h'.1 - qm_sl h.1) ≤ R.slots) (hdg : decode cc pc = .ok (.invokevirtual index, 3))
    (kk : ∀ (H' : Heap) (locs' : List Loc), H.size ≤ H'.size → (∀ q, q < H.size → ¬ Af q → H'[q]? = H[q]?) → va_P D vwCl (qm_W G ad h') H' → va_D Af (qm_W G ad h') → (∀ a, h'.1.length ≤ a → a < 1000000 → ad a = H'.size + (a - h'.1.length)) → (∀ q ∈ locs', q ∈ locs ∨ Af q.base) → W p l e R s m args below meth c H' locs' (cells + (h'.1.length - h.1.length)) (slots + (qm_sl h'.1 - qm_sl h.1)) Q (F0 m (pc + 3) ls ((v.map (qm_cv ad)).toList ++ rest))) :
    W p l e R s m args below meth c H locs cells slots Q (F0 m pc ls ((as.map (qm_cv ad)).reverse ++ .ref (ad 0) :: rest)) := by
  have hM := qL_met (l := l) (D := D) (G := G) (ad := ad) (Af := Af) hm hfit hrun
  obtain ⟨hjk, -⟩ := qk_m k r hm
  obtain ⟨j1, j2, j3, j4, j5, j6, -⟩ := id hjk
  refine qL_cont (va_runV (C := r.1.cls) (b := ad 0) (As := as.map (qm_cv ad)) (rest := rest) ⟨hx, hb, hml, hown, hts⟩ hM (cwV as.length hts ?_ rfl rfl rfl ⟨rfl, j3.1, j3.2, hnp⟩ ⟨hRf, ?_⟩) ⟨qm_blind (qL_XP ad Af) _ _, ?_, fun U hU hW => ?_⟩ rfl (List.length_map _) hsz rfl (lv_room hcat) hdg ⟨hC, hSl⟩) kk
  · intro w hw
    unfold wsV at hw
    rcases List.mem_append.mp hw with hw | hw
    · simp only [List.mem_cons, List.not_mem_nil, or_false] at hw
      rcases hw with rfl | rfl | rfl | rfl
      · exact ⟨qw_T hlk rfl, good_of_word rfl⟩
      · exact ⟨qw_T hin rfl, good_of_word rfl⟩
      · exact ⟨qw_T hse rfl, good_of_word rfl⟩
      · exact ⟨qw_T j2 rfl, good_of_word rfl⟩
    · exact qm_good r hjk w hw
  · show 8 + (r.2.2.1 + 11) + (40 * d + 40) ≤ R.locals
    omega
  · rw [hcls]
    exact va_recv hK hP (qm_vw hci) (qm_W_at hk0)
  · exact ⟨rfl, by rw [hU]; exact hP, hD, va_K.moved hW.alike hK, by rw [hU]; exact hz, by rw [hU]; exact hA, hXp U hU hW, hnw.warm hW⟩
end QL
/-! a world's addresses, chosen anew before a call -/
def qL_ad (n : Nat) (ax : Nat → Nat) (z K0 K1 S : Nat) (a : Nat) : Nat := if a < n then ax a else if a < 1000000 then z + (a - n) else if a = 1000000 then K0 else if a = 1000002 then K1 else S
theorem qL_ad_lo {n : Nat} {ax : Nat → Nat} {z K0 K1 S a : Nat} (h : a < n) : qL_ad n ax z K0 K1 S a = ax a := if_pos h
theorem qL_ad_new {n : Nat} {ax : Nat → Nat} {z K0 K1 S a : Nat} (h : n ≤ a) (h2 : a < 1000000) : qL_ad n ax z K0 K1 S a = z + (a - n) := by
  unfold qL_ad
  rw [if_neg (by omega), if_pos h2]
theorem qL_ad_K0 {n : Nat} {ax : Nat → Nat} {z K0 K1 S : Nat} (h : n ≤ 1000000) : qL_ad n ax z K0 K1 S 1000000 = K0 := by
  unfold qL_ad
  rw [if_neg (by omega), if_neg (by omega), if_pos rfl]
theorem qL_ad_K1 {n : Nat} {ax : Nat → Nat} {z K0 K1 S : Nat} (h : n ≤ 1000000) : qL_ad n ax z K0 K1 S 1000002 = K1 := by
  unfold qL_ad
  rw [if_neg (by omega), if_neg (by omega), if_neg (by omega), if_pos rfl]
theorem qL_ad_S {n : Nat} {ax : Nat → Nat} {z K0 K1 S a : Nat} (h : n ≤ 1000000) (ha : 1000002 < a) : qL_ad n ax z K0 K1 S a = S := by
  unfold qL_ad
  rw [if_neg (by omega), if_neg (by omega), if_neg (by omega), if_neg (by omega)]
/-- the world is the same where the addresses are that it names -/
theorem qL_W {G : ClassId × ClassId × ClassId} {ad ad' : Nat → Nat} {h h' : qm_H} (hk : h'.1 = h.1) (h1 : ∀ a, a < h.1.length → ad' a = ad a) (h2 : ∀ a j, a < h.1.length → h'.2.1 a j = h.2.1 a j) (h3 : ∀ a j, a < h.1.length → (h'.2.2 a j).map ad' = (h.2.2 a j).map ad) : qm_W G ad' h' = qm_W G ad h := by
  apply List.ext_getElem?
  intro a
  by_cases ha : a < h.1.length
  · have e := List.getElem?_eq_getElem ha
    have e' : h'.1[a]? = some h.1[a] := by rw [hk]; exact e
    rw [qm_W_at e', qm_W_at e, h1 a ha]
    have hφ : h'.2.1 a = h.2.1 a := by funext j; exact h2 a j ha
    have hf : ∀ ci f, qm_fv ad' h' a ci f = qm_fv ad h a ci f := by
      intro ci f
      unfold qm_fv
      have := h3 a f ha
      rw [hφ]
      cases hr : h.2.2 a f <;> cases hr' : h'.2.2 a f <;> rw [hr, hr'] at this <;> simp at this
      simp [this]
    have hE : qm_E G ad' h' a h.1[a] = qm_E G ad h a h.1[a] := by
      unfold qm_E
      rw [hφ]
      have : (qm_fv ad' h' a h.1[a].2) = qm_fv ad h a h.1[a].2 := by funext f; exact hf _ f
      rw [this]
    rw [hE]
  · have e : (qm_W G ad h)[a]? = none := by
      apply List.getElem?_eq_none
      unfold qm_W
      rw [List.length_mapIdx]; omega
    have e' : (qm_W G ad' h')[a]? = none := by
      apply List.getElem?_eq_none
      unfold qm_W
      rw [List.length_mapIdx, hk]; omega
    rw [e, e']
