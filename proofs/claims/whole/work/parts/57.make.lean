/-! THE LAW MAKES ITS OBJECTS -/
section QLI
variable {p : Program} {l : Launch} {e : Env} {R : Room} {s : State} {m : MethodId} {args : Array Value} {below : List Frame} {meth : Method} {c : Code} {H : Heap} {locs : List Loc} {cells slots : Nat} {Q : State → Prop}
variable {D : va_G} {G : ClassId × ClassId × ClassId} {ad : Nat → Nat} {Af : Nat → Prop} {cc : ByteArray} {pc nL : Nat} {ls : Array Slot} {rest : List Value} {own : String}
/-- a constructor, called by the law -/
theorem qL_callI {d k index : Nat} {r : qm_R} {as : List Value} {h h' : qm_H} {v : Option Value} (hx : p.tables.exec = Jvm.exec) (hb : c.code = cc) (hml : c.maxLocals = nL) (hown : s.vm.findClass own = some m.cls) (hts : ∀ w ∈ qm_T, w.before args s = true) (hnw : qm_nw s)
    (hm : qm_m k = some r) (hfit : qm_cat (.ref 0 :: as) ≤ r.2.2.1) (hrun : qm_Rn d k 0 (qm_el r.2.2.1 (.ref 0 :: as)) [] h (v, h')) (hlk : Cond.methodLink own index r.1 ∈ lw_tbl) (hin : Cond.instanceMethod r.1 ∈ lw_tbl) (hne : r.1.name = "<init>") (hrt : r.2.2.2.1 = none) (hnp : qm_np r as.length)
    (hK : va_K D vwCl (qm_tys G) s) (hP : va_P D vwCl (qm_W G ad h) H) (hD : va_D Af (qm_W G ad h)) (hz : ∀ a, h.1.length ≤ a → a < 1000000 → ad a = H.size + (a - h.1.length)) (hA : ∀ q, H.size ≤ q → Af q) (hXp : ∀ U : State, U.heap = H → s.WarmedH U.vm → qL_Xp ad Af U)
    (hsz : ls.size = nL) (hcat : (rest.map fun v => v.category).sum ≤ 8) (hRf : d + 2 ≤ R.frames) (hRl : 40 * d + 80 ≤ R.locals) (hC : cells + (h'.1.length - h.1.length) ≤ R.cells) (hSl : slots + (qm_sl h'.1 - qm_sl h.1) ≤ R.slots) (hdg : decode cc pc = .ok (.invokespecial index, 3))
    (kk : ∀ (H' : Heap) (locs' : List Loc), H.size ≤ H'.size → (∀ q, q < H.size → ¬ Af q → H'[q]? = H[q]?) → va_P D vwCl (qm_W G ad h') H' → va_D Af (qm_W G ad h') → (∀ a, h'.1.length ≤ a → a < 1000000 → ad a = H'.size + (a - h'.1.length)) → (∀ q ∈ locs', q ∈ locs ∨ Af q.base) → W p l e R s m args below meth c H' locs' (cells + (h'.1.length - h.1.length)) (slots + (qm_sl h'.1 - qm_sl h.1)) Q (F0 m (pc + 3) ls ((v.map (qm_cv ad)).toList ++ rest))) :
    W p l e R s m args below meth c H locs cells slots Q (F0 m pc ls ((as.map (qm_cv ad)).reverse ++ .ref (ad 0) :: rest)) := by
  have hM := qL_met (l := l) (D := D) (G := G) (ad := ad) (Af := Af) hm hfit hrun
  obtain ⟨hjk, -⟩ := qk_m k r hm
  obtain ⟨j1, j2, j3, j4, j5, j6, -⟩ := id hjk
  have hg : GoodIn qm_T (Cond.code r.1 r.2.1 r.2.2.1 none :: qm_T) := by
    have := qm_good r hjk
    rwa [hrt] at this
  rw [hrt] at hM
  refine qL_cont (va_runI (b := ad 0) (As := as.map (qm_cv ad)) (rest := rest) ⟨hx, hb, hml, hown, hts⟩ hM (cwI as.length hts hg rfl rfl rfl (hts _ (qw_T j2 rfl)) (hts _ (qw_T hlk rfl)) (hts _ (qw_T hin rfl)) hne ⟨j3.1, j3.2, hnp⟩ ⟨hRf, ?_⟩) ⟨qm_blind (qL_XP ad Af) _ _, fun U hU hW => ?_⟩ rfl (List.length_map _) hsz rfl (lv_room hcat) hdg ⟨hC, hSl⟩) kk
  · show 8 + (r.2.2.1 + 11) + (40 * d + 40) ≤ R.locals
    omega
  · exact ⟨rfl, by rw [hU]; exact hP, hD, va_K.moved hW.alike hK, by rw [hU]; exact hz, by rw [hU]; exact hA, hXp U hU hW, hnw.warm hW⟩
theorem qL_newC {index ci : Nat} (hexec : p.tables.exec = Jvm.exec) (hb : c.code = cc) (hts : ∀ w ∈ qm_T, w.before args s = true) (hK : va_K D vwCl (qm_tys G) s) (hown : s.vm.findClass own = some m.cls) (hci : ci < 10) (hcl : Cond.classLink own index (qm_cR ci) ∈ lw_tbl) (hcells : cells + 1 ≤ R.cells) (hslots : slots + qm_cN ci ≤ R.slots) (hdg : decode cc pc = .ok (.new index, 3))
    (kk : ∀ (H1 : Heap), H1.size = H.size + 1 → (∀ q, q < H.size → H1[q]? = H[q]?) → va_P D vwCl (qm_W G (fun a => H.size + a) ([(0, ci)], (fun _ _ => 0), (fun _ _ => none))) H1 → W p l e R s m args below meth c H1 locs (cells + 1) (slots + qm_cN ci) Q (F0 m (pc + 3) ls (.ref H.size :: rest))) :
    W p l e R s m args below meth c H locs cells slots Q (F0 m pc ls rest) := by
  have hc := qm_vw hci
  have hKn := hK.1 ci _ hc
  have hin : ∀ w ∈ u_ws (qm_cR ci) (qm_cT ci) (qm_cN ci), w ∈ qm_T := fun w hw => by
    refine qw_T (qw_u hci w hw) ?_
    unfold u_ws u_lay at hw
    obtain ⟨j, -, rfl⟩ := List.mem_map.mp hw
    split <;> rfl
  refine W.newcK hexec hb hown (hts _ (qw_T hcl rfl)) (hts _ (qw_T (qw_i hci) rfl)) (hts _ (qw_T (qw_n hci) rfl)) rfl hdg hcells hslots hKn.2.1 rfl fun H1 kC hkC e1 z1 o1 => ?_
  refine kk H1 z1 o1 (fun k q hq => ?_)
  have hk : k < 1 := by
    have := (List.getElem?_eq_some_iff.mp hq).1
    unfold qm_W at this
    rwa [List.length_mapIdx] at this
  obtain rfl : k = 0 := by omega
  rw [qm_W_at (kd := (0, ci)) rfl] at hq
  cases hq
  refine ⟨_, hc, (u_born (qm_cy ci) hts hin hKn hkC e1 (qm_ty hci)).to (fun j hj => ?_)⟩
  show defaultValue (qm_cy ci j) = vp_V ((List.range (qm_cN ci)).map (qm_fv (fun a => H.size + a) ([(0, ci)], (fun _ _ => 0), (fun _ _ => none)) 0 ci)) j
  unfold vp_V
  rw [List.getD_eq_getElem?_getD, qs_fs hj, qm_dv ci hci j hj]
  simp [qm_fv]
end QLI
section QLQ
variable {p : Program} {l : Launch} {e : Env} {R : Room} {s : State} {m : MethodId} {args : Array Value} {below : List Frame} {meth : Method} {c : Code} {H : Heap} {cells slots : Nat} {Q : State → Prop}
variable {D : va_G} {G : ClassId × ClassId × ClassId} {ax : Nat → Nat} {A : Nat → Prop} {cc : ByteArray} {pc nL : Nat} {ls : Array Slot} {rest : List Value} {own : String}
/-- a constructor: the object's world goes on, all else stays -/
theorem qL_opI {d k ci index K0 K1 S : Nat} {r : qm_R} {as : List Int32} {h h' : qm_H} {v : Option Value} (hx : p.tables.exec = Jvm.exec) (hb : c.code = cc) (hml : c.maxLocals = nL) (hown : s.vm.findClass own = some m.cls) (hts : ∀ w ∈ qm_T, w.before args s = true) (hnw : qm_nw s)
    (hm : qm_m k = some r) (hfit : qm_cat (.ref 0 :: as.map Value.int) ≤ r.2.2.1) (hrun : qm_Rn d k 0 (qm_el r.2.2.1 (.ref 0 :: as.map Value.int)) [] h (v, h')) (hk0 : h.1[0]? = some (0, ci)) (hlk : Cond.methodLink own index r.1 ∈ lw_tbl) (hin : Cond.instanceMethod r.1 ∈ lw_tbl) (hne : r.1.name = "<init>") (hrt : r.2.2.2.1 = none) (hnp : qm_np r as.length)
    (hK : va_K D vwCl (qm_tys G) s) (C : qL_C D G s.heap.size H A ax h) (hS : va_S (fun q => s.heap.size ≤ q) s.heap H []) (hZ : qL_Z K0 K1 s) (hn : h.1.length ≤ 1000000) (hcl : ∀ a j, a < h.1.length → (h.2.2 a j).map (qL_ad h.1.length ax H.size K0 K1 S) = (h.2.2 a j).map ax)
    (hsz : ls.size = nL) (hcat : (rest.map fun v => v.category).sum ≤ 8) (hRf : d + 2 ≤ R.frames) (hRl : 40 * d + 80 ≤ R.locals) (hC : cells + (h'.1.length - h.1.length) ≤ R.cells) (hSl : slots + (qm_sl h'.1 - qm_sl h.1) ≤ R.slots) (hdg : decode cc pc = .ok (.invokespecial index, 3))
    (kk : ∀ H' : Heap, H.size ≤ H'.size → (∀ q, q < H.size → ¬ A q → H'[q]? = H[q]?) → va_S (fun q => s.heap.size ≤ q) s.heap H' [] → qL_C D G s.heap.size H' (fun q => A q ∨ (H.size ≤ q ∧ q < H'.size)) (qL_ad h.1.length ax H.size K0 K1 S) h' → W p l e R s m args below meth c H' [] (cells + (h'.1.length - h.1.length)) (slots + (qm_sl h'.1 - qm_sl h.1)) Q (F0 m (pc + 3) ls ((v.map (qm_cv (qL_ad h.1.length ax H.size K0 K1 S))).toList ++ rest))) :
    W p l e R s m args below meth c H [] cells slots Q (F0 m pc ls ((as.map Value.int).reverse ++ .ref (ax 0) :: rest)) := by
  have h0 : 0 < h.1.length := (List.getElem?_eq_some_iff.mp hk0).1
  generalize had : qL_ad h.1.length ax H.size K0 K1 S = ad at hcl kk
  have hW0 : qm_W G ad h = qm_W G ax h := qL_W rfl (fun a ha => by rw [← had]; exact qL_ad_lo ha) (fun _ _ _ => rfl) hcl
  have hlo : ad 0 = ax 0 := by rw [← had]; exact qL_ad_lo h0
  have hA : ∀ q, (A q ∨ H.size ≤ q) → s.heap.size ≤ q := fun q hq => hq.elim (fun y => (C.2.2 q y).1) (fun y => Nat.le_trans hS.1 y)
  have hst : (as.map Value.int).reverse ++ Value.ref (ax 0) :: rest = ((as.map Value.int).map (qm_cv ad)).reverse ++ Value.ref (ad 0) :: rest := by rw [qL_ints, hlo]
  rw [hst]
  refine qL_callI (Af := fun q => A q ∨ H.size ≤ q) (ad := ad) (h := h) (h' := h') (v := v) (d := d) hx hb hml hown hts hnw hm hfit hrun hlk hin hne hrt (by rw [List.length_map]; exact hnp) hK (by rw [hW0]; exact C.1) (by rw [hW0]; exact ⟨C.2.1.1, fun k q hq => Or.inl (C.2.1.2 k q hq)⟩) (fun a h1 h2 => by rw [← had]; exact qL_ad_new h1 h2) (fun q hq => Or.inr hq) (fun U hU hW => ?_) hsz hcat hRf hRl hC hSl hdg (fun H' locs' e1 e2 e3 e4 e5 e6 => ?_)
  · rw [← had]
    exact hZ.to hn hW hA (fun q hq => by rw [hU]; exact hS.2.1 q hq (fun y => absurd y (Nat.not_le_of_lt hq)))
  · refine va_forget (fun q hq => ?_) (kk H' e1 (fun q h1 h2 => e2 q h1 (fun y => y.elim h2 (fun y => absurd y (Nat.not_le_of_lt h1)))) ⟨Nat.le_trans hS.1 e1, fun q h1 h2 => ?_, fun q hq => absurd hq List.not_mem_nil⟩ (C.self hS.1 e1 e3 e4))
    · rcases e6 q hq with y | y
      · exact absurd y List.not_mem_nil
      · exact hA _ y
    · rw [e2 q (Nat.lt_of_lt_of_le h1 hS.1) (fun y => h2 (hA q y))]
      exact hS.2.1 q h1 h2
end QLQ
