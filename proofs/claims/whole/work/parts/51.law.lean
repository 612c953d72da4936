/-! TWO WORLDS SIDE BY SIDE -/
def qL_C (D : va_G) (G : ClassId × ClassId × ClassId) (z0 : Nat) (H : Heap) (A : Nat → Prop) (ad : Nat → Nat) (h : qm_H) : Prop := va_P D vwCl (qm_W G ad h) H ∧ va_D A (qm_W G ad h) ∧ ∀ q, A q → z0 ≤ q ∧ q < H.size
section QLC
variable {D : va_G} {G : ClassId × ClassId × ClassId} {z0 : Nat} {H H' : Heap} {A Af : Nat → Prop} {ad ad' : Nat → Nat} {h h' : qm_H}
theorem qL_C.other (C : qL_C D G z0 H A ad h) (hs : H.size ≤ H'.size) (hk : ∀ q, q < H.size → ¬ Af q → H'[q]? = H[q]?) (hd : ∀ q, A q → ¬ Af q) : qL_C D G z0 H' A ad h := by
  obtain ⟨hP, hD, hA⟩ := C
  exact ⟨hP.kept (fun k y hy => hk y.1 (hA _ (hD.2 k y hy)).2 (hd _ (hD.2 k y hy))), hD, fun q hq => ⟨(hA q hq).1, Nat.lt_of_lt_of_le (hA q hq).2 hs⟩⟩
theorem qL_C.self (C : qL_C D G z0 H A ad h) (hz : z0 ≤ H.size) (hs : H.size ≤ H'.size) (hP : va_P D vwCl (qm_W G ad' h') H') (hD : va_D (fun q => A q ∨ H.size ≤ q) (qm_W G ad' h')) : qL_C D G z0 H' (fun q => A q ∨ (H.size ≤ q ∧ q < H'.size)) ad' h' := by
  obtain ⟨-, -, hA⟩ := C
  refine ⟨hP, ⟨hD.1, fun k q hq => ?_⟩, fun q hq => ?_⟩
  · rcases hD.2 k q hq with y | y
    · exact Or.inl y
    · exact Or.inr ⟨y, (hP k q hq).lt⟩
  · rcases hq with y | y
    · exact ⟨(hA q y).1, Nat.lt_of_lt_of_le (hA q y).2 hs⟩
    · exact ⟨Nat.le_trans hz y.1, y.2⟩
/-- some of the cells, under other numbers -/
theorem qL_C.sub (C : qL_C D G z0 H A ad h) {σ : Nat → Nat} (hk : ∀ i, i < h'.1.length → h.1[σ i]? = h'.1[i]?) (inj : ∀ i j, i < h'.1.length → j < h'.1.length → σ i = σ j → i = j) (h1 : ∀ i, i < h'.1.length → ad' i = ad (σ i)) (h2 : ∀ i j, i < h'.1.length → h'.2.1 i j = h.2.1 (σ i) j) (h3 : ∀ i j, i < h'.1.length → (h'.2.2 i j).map ad' = (h.2.2 (σ i) j).map ad) : qL_C D G z0 H A ad' h' := by
  obtain ⟨hP, hD, hA⟩ := C
  have key : ∀ (i : Nat) (q : Nat × va_E), (qm_W G ad' h')[i]? = some q → i < h'.1.length ∧ (qm_W G ad h)[σ i]? = some q := by
    intro i q hq
    have hi : i < h'.1.length := by
      have := (List.getElem?_eq_some_iff.mp hq).1
      unfold qm_W at this
      rwa [List.length_mapIdx] at this
    refine ⟨hi, ?_⟩
    have e := List.getElem?_eq_getElem hi
    have e' : h.1[σ i]? = some h'.1[i] := (hk i hi).trans e
    rw [← hq, qm_W_at e', qm_W_at e, h1 i hi]
    have hφ : h'.2.1 i = h.2.1 (σ i) := by funext j; exact h2 i j hi
    have hf : ∀ ci, qm_fv ad' h' i ci = qm_fv ad h (σ i) ci := by
      intro ci
      funext f
      unfold qm_fv
      have := h3 i f hi
      rw [hφ]
      cases hr : h.2.2 (σ i) f <;> cases hr' : h'.2.2 i f <;> rw [hr, hr'] at this <;> simp at this
      simp [this]
    unfold qm_E
    rw [hφ, hf]
  refine ⟨fun k q hq => hP (σ k) q (key k q hq).2, ⟨fun i j p q hp hq e => ?_, fun k q hq => hD.2 (σ k) q (key k q hq).2⟩, hA⟩
  obtain ⟨i1, i2⟩ := key i p hp
  obtain ⟨j1, j2⟩ := key j q hq
  exact inj i j i1 j1 (hD.1 _ _ p q i2 j2 e)
end QLC
/-- the two string constants, as the start has them -/
def qL_Z (K0 K1 : Nat) (s : State) : Prop := qm_Xs (fun a => if a = 1000000 then K0 else K1) s ∧ qj_Y (fun a => if a = 1000000 then K0 else K1) (fun q => s.heap.size ≤ q) s
theorem qL_Z.to {K0 K1 n z S : Nat} {ax : Nat → Nat} {s U : State} {A : Nat → Prop} (hZ : qL_Z K0 K1 s) (hn : n ≤ 1000000) (hW : s.WarmedH U.vm) (hA : ∀ q, A q → s.heap.size ≤ q) (hk : ∀ q : Nat, q < s.heap.size → U.heap[q]? = s.heap[q]?) : qL_Xp (qL_ad n ax z K0 K1 S) A U := by
  obtain ⟨⟨z1, z2⟩, z3⟩ := hZ
  refine ⟨⟨?_, ?_⟩, fun a ha => ?_⟩
  · rw [qL_ad_K0 hn]; exact z1.warm hW
  · rw [qL_ad_K1 hn]; exact z2.warm hW
  · obtain ⟨V, hV⟩ := z3 a ha
    refine ⟨V, ?_⟩
    have hV2 := ((hV.moved hW.alike).kept (H1 := U.heap) (fun q h1 _ => hk q h1)).narrow (B := A) hA
    have e : qL_ad n ax z K0 K1 S a = (fun a => if a = 1000000 then K0 else K1) a := by
      unfold qm_str at ha
      dsimp only
      split at ha
      · rename_i q; subst q; rw [if_pos rfl]; exact qL_ad_K0 hn
      · split at ha
        · rename_i q; subst q; rw [if_neg (by decide)]; exact qL_ad_K1 hn
        · exact absurd rfl ha
    rw [e]
    exact hV2
section QLO
variable {p : Program} {l : Launch} {e : Env} {R : Room} {s : State} {m : MethodId} {args : Array Value} {below : List Frame} {meth : Method} {c : Code} {H : Heap} {cells slots : Nat} {Q : State → Prop}
variable {D : va_G} {G : ClassId × ClassId × ClassId} {ax : Nat → Nat} {A : Nat → Prop} {cc : ByteArray} {pc nL : Nat} {ls : Array Slot} {rest : List Value} {own : String}
theorem qL_ints (ad : Nat → Nat) (as : List Int32) : (as.map Value.int).map (qm_cv ad) = as.map Value.int := by
  rw [List.map_map]; rfl
/-- a call of the law on one of its two objects: the object's world goes on, all else stays -/
theorem qL_op {d k ci index K0 K1 S : Nat} {r : qm_R} {as : List Int32} {h h' : qm_H} {v : Option Value} (hx : p.tables.exec = Jvm.exec) (hb : c.code = cc) (hml : c.maxLocals = nL) (hown : s.vm.findClass own = some m.cls) (hts : ∀ w ∈ qm_T, w.before args s = true) (hnw : qm_nw s)
    (hm : qm_m k = some r) (hfit : qm_cat (.ref 0 :: as.map Value.int) ≤ r.2.2.1) (hrun : qm_Rn d k 0 (qm_el r.2.2.1 (.ref 0 :: as.map Value.int)) [] h (v, h')) (hci : ci < 10) (hcls : r.1.cls = qm_cR ci) (hk0 : h.1[0]? = some (0, ci)) (hlk : Cond.methodLink own index r.1 ∈ lw_tbl) (hin : Cond.instanceMethod r.1 ∈ lw_tbl) (hse : Cond.selects r.1.cls r.1 r.1 ∈ lw_tbl) (hnp : qm_np r as.length)
    (hK : va_K D vwCl (qm_tys G) s) (C : qL_C D G s.heap.size H A ax h) (hS : va_S (fun q => s.heap.size ≤ q) s.heap H []) (hZ : qL_Z K0 K1 s) (hn : h.1.length ≤ 1000000) (hcl : ∀ a j, a < h.1.length → (h.2.2 a j).map (qL_ad h.1.length ax H.size K0 K1 S) = (h.2.2 a j).map ax)
    (hsz : ls.size = nL) (hcat : (rest.map fun v => v.category).sum ≤ 8) (hRf : d + 2 ≤ R.frames) (hRl : 40 * d + 80 ≤ R.locals) (hC : cells + (h'.1.length - h.1.length) ≤ R.cells) (hSl : slots + (qm_sl h'.1 - qm_sl h.1) ≤ R.slots) (hdg : decode cc pc = .ok (.invokevirtual index, 3))
    (kk : ∀ H' : Heap, H.size ≤ H'.size → (∀ q, q < H.size → ¬ A q → H'[q]? = H[q]?) → va_S (fun q => s.heap.size ≤ q) s.heap H' [] → qL_C D G s.heap.size H' (fun q => A q ∨ (H.size ≤ q ∧ q < H'.size)) (qL_ad h.1.length ax H.size K0 K1 S) h' → W p l e R s m args below meth c H' [] (cells + (h'.1.length - h.1.length)) (slots + (qm_sl h'.1 - qm_sl h.1)) Q (F0 m (pc + 3) ls ((v.map (qm_cv (qL_ad h.1.length ax H.size K0 K1 S))).toList ++ rest))) :
    W p l e R s m args below meth c H [] cells slots Q (F0 m pc ls ((as.map Value.int).reverse ++ .ref (ax 0) :: rest)) := by
  have h0 : 0 < h.1.length := (List.getElem?_eq_some_iff.mp hk0).1
  generalize had : qL_ad h.1.length ax H.size K0 K1 S = ad at hcl kk
  have hW0 : qm_W G ad h = qm_W G ax h := qL_W rfl (fun a ha => by rw [← had]; exact qL_ad_lo ha) (fun _ _ _ => rfl) hcl
  have hlo : ad 0 = ax 0 := by rw [← had]; exact qL_ad_lo h0
  have hA : ∀ q, (A q ∨ H.size ≤ q) → s.heap.size ≤ q := fun q hq => hq.elim (fun y => (C.2.2 q y).1) (fun y => Nat.le_trans hS.1 y)
  have hst : (as.map Value.int).reverse ++ Value.ref (ax 0) :: rest = ((as.map Value.int).map (qm_cv ad)).reverse ++ Value.ref (ad 0) :: rest := by rw [qL_ints, hlo]
  rw [hst]
  refine qL_callV (Af := fun q => A q ∨ H.size ≤ q) (ad := ad) (h := h) (h' := h') (v := v) (d := d) hx hb hml hown hts hnw hm hfit hrun hci hcls hk0 hlk hin hse (by rw [List.length_map]; exact hnp) hK (by rw [hW0]; exact C.1) (by rw [hW0]; exact ⟨C.2.1.1, fun k q hq => Or.inl (C.2.1.2 k q hq)⟩) (fun a h1 h2 => by rw [← had]; exact qL_ad_new h1 h2) (fun q hq => Or.inr hq) (fun U hU hW => ?_) hsz hcat hRf hRl hC hSl hdg (fun H' locs' e1 e2 e3 e4 e5 e6 => ?_)
  · rw [← had]
    exact hZ.to hn hW hA (fun q hq => by rw [hU]; exact hS.2.1 q hq (fun y => absurd y (Nat.not_le_of_lt hq)))
  · refine va_forget (fun q hq => ?_) (kk H' e1 (fun q h1 h2 => e2 q h1 (fun y => y.elim h2 (fun y => absurd y (Nat.not_le_of_lt h1)))) ⟨Nat.le_trans hS.1 e1, fun q h1 h2 => ?_, fun q hq => absurd hq List.not_mem_nil⟩ (C.self hS.1 e1 e3 e4))
    · rcases e6 q hq with y | y
      · exact absurd y List.not_mem_nil
      · exact hA _ y
    · rw [e2 q (Nat.lt_of_lt_of_le h1 hS.1) (fun y => h2 (hA q y))]
      exact hS.2.1 q h1 h2
end QLO
