/-! stores into arrays, new cells, and the step theorem -/
section QO
variable {p : Program} {l : Launch} {e : Env} {R : Room} {s : State} {m : MethodId} {args : Array Value} {below : List Frame} {meth : Method} {c : Code} {H : Heap} {locs : List Loc} {cells slots : Nat} {Q : State → Prop}
variable {D : va_G} {G : ClassId × ClassId × ClassId} {ad : Nat → Nat} {Af : Nat → Prop}
/-- behind a store into an array's cell -/
theorem qs_arr {h : qm_H} {a n : Nat} {kd : Nat × Nat} {cA : ClassId} {i : Nat} {x : Int32} {H1 : Heap} (hJ : qm_J D G ad Af s.heap H locs h) (hk : h.1[a]? = some kd) (hE : ∀ h' : qm_H, qm_E G ad h' a kd = .inl (cA, n, .inl (h'.2.1 a)))
    (e1 : H1[ad a]? = some ((arrV cA n (fun j => .int (h.2.1 a j))).setSlot i (.int x))) (e2 : H1.size = H.size) (e3 : ∀ q, q ≠ ad a → H1[q]? = H[q]?) : qm_J D G ad Af s.heap H1 (locs ++ [⟨ad a, i⟩]) (h.1, qm_u h.2.1 a i x, h.2.2) := by
  obtain ⟨hP, hD, hS, hz⟩ := hJ
  have ha : (qm_W G ad h)[a]? = some (ad a, .inl (cA, n, .inl (h.2.1 a))) := by rw [qm_W_at hk, hE]
  refine ⟨?_, ?_, hS.put e2 e3 (hD.2 a _ ha), by rw [e2]; exact hz⟩
  · rw [← qs_seti hk, hE]
    refine hP.set hD ha ?_ e3
    show H1[ad a]? = some (vp_cell _ _)
    rw [e1, vp_cell_i, arrV_store]
    congr 2
    funext q
    by_cases hq : q = i
    · subst hq; simp [updV, qm_u]
    · simp [updV, qm_u, hq]
  · rw [← qs_seti hk, hE]
    exact hD.set ha
theorem qs_iast {cc : ByteArray} {pc : Nat} {lsR : Array Slot} {rest : List Value} {h : qm_H} {a n : Nat} {i x : Int32} (hexec : p.tables.exec = Jvm.exec) (hb : c.code = cc) (hK : va_K D vwCl (qm_tys G) s) (hJ : qm_J D G ad Af s.heap H locs h) (hk : h.1[a]? = some (1, n)) (hin : vp_in i n) (hdg : decode cc pc = .ok (.iastore, 1))
    (kk : ∀ (H1 : Heap) (locs1 : List Loc), qm_J D G ad Af s.heap H1 locs1 (h.1, qm_u h.2.1 a i.toNatClampNeg x, h.2.2) → W p l e R s m args below meth c H1 locs1 cells slots Q (F0 m (pc + 1) lsR rest)) :
    W p l e R s m args below meth c H locs cells slots Q (F0 m pc lsR (.int x :: .int i :: .ref (ad a) :: rest)) := by
  refine W.iast hexec hb (hJ.1 a _ (qm_W_at hk)) ((hK.2 0 _ rfl).1 n (fun j => .int (h.2.1 a j))) (fun q => by cases q) (by show ¬ (i < 0 ∨ (arrV _ _ _).slots.size ≤ _); rw [arrV_size]; exact hin) rfl rfl hdg fun H1 e1 z oq => ?_
  exact kk H1 _ (qs_arr hJ hk (fun _ => rfl) e1 z oq)
theorem qs_bast {cc : ByteArray} {pc : Nat} {lsR : Array Slot} {rest : List Value} {h : qm_H} {a n : Nat} {i x : Int32} (hexec : p.tables.exec = Jvm.exec) (hb : c.code = cc) (hK : va_K D vwCl (qm_tys G) s) (hJ : qm_J D G ad Af s.heap H locs h) (hk : h.1[a]? = some (2, n)) (hin : vp_in i n) (hdg : decode cc pc = .ok (.bastore, 1))
    (kk : ∀ (H1 : Heap) (locs1 : List Loc), qm_J D G ad Af s.heap H1 locs1 (h.1, qm_u h.2.1 a i.toNatClampNeg (qm_by x), h.2.2) → W p l e R s m args below meth c H1 locs1 cells slots Q (F0 m (pc + 1) lsR rest)) :
    W p l e R s m args below meth c H locs cells slots Q (F0 m pc lsR (.int x :: .int i :: .ref (ad a) :: rest)) := by
  refine W.bast hexec hb (hJ.1 a _ (qm_W_at hk)) ((hK.2 1 _ rfl).1 n (fun j => .int (h.2.1 a j))) (fun q => by cases q) (by show ¬ (i < 0 ∨ (arrV _ _ _).slots.size ≤ _); rw [arrV_size]; exact hin) rfl rfl hdg fun H1 e1 z oq => ?_
  exact kk H1 _ (qs_arr hJ hk (fun _ => rfl) e1 z oq)
theorem qs_bzn {x : Int32} (h : qm_bz x = true) : narrow .boolean (.int x) = .int x := by
  unfold qm_bz at h
  simp only [Bool.or_eq_true, decide_eq_true_eq] at h
  rcases h with rfl | rfl <;> rfl
theorem qs_bzf {x : Int32} (h : qm_bz x = true) : fits .boolean (.int x) = true := by
  unfold qm_bz at h
  simp only [Bool.or_eq_true, decide_eq_true_eq] at h
  rcases h with rfl | rfl <;> rfl
theorem qs_zast {cc : ByteArray} {pc : Nat} {lsR : Array Slot} {rest : List Value} {h : qm_H} {a n : Nat} {i x : Int32} (hexec : p.tables.exec = Jvm.exec) (hb : c.code = cc) (hK : va_K D vwCl (qm_tys G) s) (hJ : qm_J D G ad Af s.heap H locs h) (hk : h.1[a]? = some (3, n)) (hin : vp_in i n) (hbz : qm_bz x = true) (hdg : decode cc pc = .ok (.bastore, 1))
    (kk : ∀ (H1 : Heap) (locs1 : List Loc), qm_J D G ad Af s.heap H1 locs1 (h.1, qm_u h.2.1 a i.toNatClampNeg x, h.2.2) → W p l e R s m args below meth c H1 locs1 cells slots Q (F0 m (pc + 1) lsR rest)) :
    W p l e R s m args below meth c H locs cells slots Q (F0 m pc lsR (.int x :: .int i :: .ref (ad a) :: rest)) := by
  refine W.zast hexec hb (hJ.1 a _ (qm_W_at hk)) ((hK.2 2 _ rfl).1 n (fun j => .int (h.2.1 a j))) (fun q => by cases q) (by show ¬ (i < 0 ∨ (arrV _ _ _).slots.size ≤ _); rw [arrV_size]; exact hin) rfl rfl hdg fun H1 e1 z oq => ?_
  rw [qs_bzn hbz] at e1
  exact kk H1 _ (qs_arr hJ hk (fun _ => rfl) e1 z oq)
/-- behind a new cell -/
theorem qs_new {h h' : qm_H} {kd : Nat × Nat} {H1 : Heap} (hJ : qm_J D G ad Af s.heap H locs h) (hA : ∀ q, s.heap.size ≤ q → Af q) (hn : h.1.length < 900000) (h1 : h'.1 = h.1 ++ [kd]) (h2 : ∀ b, b ≠ h.1.length → h'.2.1 b = h.2.1 b ∧ h'.2.2 b = h.2.2 b)
    (hat : va_at D vwCl (H.size, qm_E G ad h' h.1.length kd) H1) (z1 : H1.size = H.size + 1) (o1 : ∀ q, q < H.size → H1[q]? = H[q]?) : qm_J D G ad Af s.heap H1 locs h' ∧ ad h.1.length = H.size := by
  obtain ⟨hP, hD, hS, hz⟩ := hJ
  have had : ad h.1.length = H.size := by rw [hz _ (Nat.le_refl _) (by omega)]; omega
  refine ⟨⟨?_, ?_, ⟨by have := hS.1; omega, fun x g1 g2 => (o1 x (Nat.lt_of_lt_of_le g1 hS.1)).trans (hS.2.1 x g1 g2), hS.2.2⟩, ?_⟩, had⟩
  · rw [qm_W_add h1 h2, had]
    refine (hP.kept (fun k x hx => o1 x.1 ((hP k x hx).lt))).app (fun k x hx => ?_)
    have hz : k < 1 := (List.getElem?_eq_some_iff.mp hx).1
    rw [show k = 0 by omega] at hx
    cases hx
    exact hat
  · rw [qm_W_add h1 h2, had]
    exact hD.push hP rfl (hA _ hS.1)
  · intro a ha hb
    have hl : h'.1.length = h.1.length + 1 := by rw [h1]; simp
    rw [hl] at ha ⊢
    rw [hz a (by omega) hb, z1]
    omega
theorem qs_alz {h : qm_H} {kd : Nat × Nat} : (qm_al h kd).2.1 h.1.length = fun _ => 0 := by funext j; simp [qm_al, qm_z]
theorem qs_alo {h : qm_H} {kd : Nat × Nat} : ∀ b, b ≠ h.1.length → (qm_al h kd).2.1 b = h.2.1 b ∧ (qm_al h kd).2.2 b = h.2.2 b := by
  intro b hb
  constructor <;> (funext j; simp [qm_al, qm_z, hb])
theorem qs_newA {cc : ByteArray} {pc : Nat} {lsR : Array Slot} {rest : List Value} {h : qm_H} {n : Int32} {at0 : ArrayType} {kx : Nat} {cA : ClassId} {ty : FieldType} (hexec : p.tables.exec = Jvm.exec) (hb : c.code = cc) (hts : ∀ w ∈ qm_T, w.before args s = true) (hJ : qm_J D G ad Af s.heap H locs h) (hA : ∀ q, s.heap.size ≤ q → Af q) (hn : h.1.length < 900000) (hin : qm_in n 100000 = true)
    (harr : (Cond.arrayClass ty).before args s = true) (hty : newarray.typeOf at0 = ty) (hcb : componentBytes ty ≤ 8) (hdv : defaultValue ty = .int 0) (hfc : s.vm.findClass ("[" ++ ty.toString) = some cA) (hE : ∀ h' : qm_H, qm_E G ad h' h.1.length (kx, n.toNatClampNeg) = .inl (cA, n.toNatClampNeg, .inl (h'.2.1 h.1.length)))
    (hcells : cells + 1 ≤ R.cells) (hslots : slots + n.toNatClampNeg ≤ R.slots) (hdg : decode cc pc = .ok (.newarray at0, 2))
    (kk : ∀ (H1 : Heap), qm_J D G ad Af s.heap H1 locs (qm_al h (kx, n.toNatClampNeg)) → W p l e R s m args below meth c H1 locs (cells + 1) (slots + n.toNatClampNeg) Q (F0 m (pc + 2) lsR (.ref (ad h.1.length) :: rest))) :
    W p l e R s m args below meth c H locs cells slots Q (F0 m pc lsR (.int n :: rest)) := by
  subst hty
  have hv := qs_in hin
  have hlt : n.toNatClampNeg < 100000 := by
    unfold qm_in at hin
    simp only [Bool.and_eq_true, decide_eq_true_eq] at hin
    exact hin.2
  refine va_newaK hexec hb harr rfl hdg rfl (fun q => hv (Or.inl q)) rfl (by have := Nat.mul_le_mul (Nat.le_of_lt hlt) hcb; omega) hcells hslots rfl fun H1 cA' e1 z1 o1 hAr hNm => ?_
  have hcA : cA' = cA := Option.some.inj (hNm.symm.trans hfc)
  subst hcA
  obtain ⟨hJ', had⟩ := qs_new (h' := qm_al h (kx, n.toNatClampNeg)) (kd := (kx, n.toNatClampNeg)) hJ hA hn rfl qs_alo (H1 := H1) (by
    rw [hE]
    show H1[H.size]? = some (vp_cell _ _)
    rw [e1, vp_cell_i, qs_alz, hdv]) z1 o1
  have := kk H1 hJ'
  rw [had] at this
  exact this
theorem qm_dv : ∀ ci, ci < 10 → ∀ j, j < qm_cN ci → defaultValue (qm_cy ci j) = if qm_isr (qm_cy ci j) = true then .null else .int 0 := by decide +kernel
theorem qs_newC {cc : ByteArray} {pc : Nat} {lsR : Array Slot} {rest : List Value} {h : qm_H} {ci index o : Nat} (hexec : p.tables.exec = Jvm.exec) (hb : c.code = cc) (hts : ∀ w ∈ qm_T, w.before args s = true) (hK : va_K D vwCl (qm_tys G) s) (hown : s.vm.findClass (qm_oR o) = some m.cls) (hJ : qm_J D G ad Af s.heap H locs h) (hA : ∀ q, s.heap.size ≤ q → Af q) (hn : h.1.length < 900000) (hci : ci < 10)
    (hcl : Cond.classLink (qm_oR o) index (qm_cR ci) ∈ lw_tbl) (hcells : cells + 1 ≤ R.cells) (hslots : slots + qm_cN ci ≤ R.slots) (hdg : decode cc pc = .ok (.new index, 3))
    (kk : ∀ (H1 : Heap), qm_J D G ad Af s.heap H1 locs (qm_al h (0, ci)) → W p l e R s m args below meth c H1 locs (cells + 1) (slots + qm_cN ci) Q (F0 m (pc + 3) lsR (.ref (ad h.1.length) :: rest))) :
    W p l e R s m args below meth c H locs cells slots Q (F0 m pc lsR rest) := by
  have hc := qm_vw hci
  have hKn := hK.1 ci _ hc
  have hin : ∀ w ∈ u_ws (qm_cR ci) (qm_cT ci) (qm_cN ci), w ∈ qm_T := fun w hw => by
    refine qw_T (qw_u hci w hw) ?_
    unfold u_ws u_lay at hw
    obtain ⟨j, -, rfl⟩ := List.mem_map.mp hw
    split <;> rfl
  refine W.newcK hexec hb hown (hts _ (qw_T hcl rfl)) (hts _ (qw_T (qw_i hci) rfl)) (hts _ (qw_T (qw_n hci) rfl)) rfl hdg hcells hslots hKn.2.1 rfl fun H1 kC hkC e1 z1 o1 => ?_
  obtain ⟨hJ', had⟩ := qs_new (h' := qm_al h (0, ci)) (kd := (0, ci)) hJ hA hn rfl qs_alo (H1 := H1) (by
    refine ⟨_, hc, (u_born (qm_cy ci) hts hin hKn hkC e1 (qm_ty hci)).to (fun j hj => ?_)⟩
    show defaultValue (qm_cy ci j) = vp_V ((List.range (qm_cN ci)).map (qm_fv ad (qm_al h (0, ci)) h.1.length ci)) j
    unfold vp_V
    rw [List.getD_eq_getElem?_getD, qs_fs hj, qm_dv ci hci j hj]
    simp [qm_fv, qm_al, qm_z]) z1 o1
  have := kk H1 hJ'
  rw [had] at this
  exact this
end QO
