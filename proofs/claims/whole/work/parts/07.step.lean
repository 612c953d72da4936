/-! ONE INSTRUCTION of the small machine is one of the machine's -/
section QS
variable {p : Program} {l : Launch} {e : Env} {R : Room} {s : State} {m : MethodId} {args : Array Value} {below : List Frame} {meth : Method} {c : Code} {H : Heap} {locs : List Loc} {cells slots : Nat} {Q : State → Prop}
variable {D : va_G} {G : ClassId × ClassId × ClassId} {ad : Nat → Nat} {Af : Nat → Prop}
theorem qs_cs {g : JFrame} {a b : Nat} {x y : List (Nat × Nat)} (ha : a = b) (hx : x = y) (k : W p l e R s m args below meth c H locs (cells + (a - b)) (slots + (qm_sl x - qm_sl y)) Q g) : W p l e R s m args below meth c H locs cells slots Q g := by
  subst ha; subst hx
  exact W.cs (by simp) (by simp) k
theorem qs_tgt {pc : Nat} {off : Int} (h : 0 ≤ (pc : Int) + off) : (pc : Int) + off = ((qm_tgt pc off : Nat) : Int) := by unfold qm_tgt; omega
theorem qs_in {i : Int32} {n : Nat} (h : qm_in i n = true) : vp_in i n := by
  unfold qm_in at h
  simp only [Bool.and_eq_true, Bool.not_eq_true', decide_eq_false_iff_not, decide_eq_true_eq] at h
  unfold vp_in
  rintro (q | q)
  · exact h.1 q
  · omega
/-- the cell a is given a new int -/
theorem qs_seti {h : qm_H} {a : Nat} {kd : Nat × Nat} {i : Nat} {x : Int32} (hk : h.1[a]? = some kd) : (qm_W G ad h).set a (ad a, qm_E G ad (h.1, qm_u h.2.1 a i x, h.2.2) a kd) = qm_W G ad (h.1, qm_u h.2.1 a i x, h.2.2) := by
  refine qm_W_set hk rfl (fun b hb => ⟨?_, rfl⟩)
  funext j
  simp [qm_u, hb]
theorem qs_setr {h : qm_H} {a : Nat} {kd : Nat × Nat} {i : Nat} {x : Option Nat} (hk : h.1[a]? = some kd) : (qm_W G ad h).set a (ad a, qm_E G ad (h.1, h.2.1, qm_u h.2.2 a i x) a kd) = qm_W G ad (h.1, h.2.1, qm_u h.2.2 a i x) := by
  refine qm_W_set hk rfl (fun b hb => ⟨rfl, ?_⟩)
  funext j
  simp [qm_u, hb]
theorem qs_fs {h : qm_H} {a ci k : Nat} (hk : k < qm_cN ci) : ((List.range (qm_cN ci)).map (qm_fv ad h a ci))[k]? = some (qm_fv ad h a ci k) := by
  simp [hk]
theorem qs_fsi {h : qm_H} {a ci k : Nat} {x : Int32} (hr : qm_isr (qm_cy ci k) = false) : ((List.range (qm_cN ci)).map (qm_fv ad h a ci)).set k (.int x) = (List.range (qm_cN ci)).map (qm_fv ad (h.1, qm_u h.2.1 a k x, h.2.2) a ci) := by
  apply List.ext_getElem?
  intro i
  by_cases hi : i = k
  · subst hi
    by_cases hl : i < qm_cN ci
    · rw [List.getElem?_set_self (by simpa using hl), qs_fs hl]
      simp [qm_fv, hr, qm_u]
    · simp [hl]
  · rw [List.getElem?_set_ne (Ne.symm hi)]
    by_cases hl : i < qm_cN ci
    · rw [qs_fs hl, qs_fs hl]
      simp [qm_fv, qm_u, hi]
    · simp [hl]
theorem qs_fsr {h : qm_H} {a ci k : Nat} {x : Option Nat} (hr : qm_isr (qm_cy ci k) = true) : ((List.range (qm_cN ci)).map (qm_fv ad h a ci)).set k (match x with | none => .null | some b => .ref (ad b)) = (List.range (qm_cN ci)).map (qm_fv ad (h.1, h.2.1, qm_u h.2.2 a k x) a ci) := by
  apply List.ext_getElem?
  intro i
  by_cases hi : i = k
  · subst hi
    by_cases hl : i < qm_cN ci
    · rw [List.getElem?_set_self (by simpa using hl), qs_fs hl]
      simp [qm_fv, hr, qm_u]
      cases x <;> rfl
    · simp [hl]
  · rw [List.getElem?_set_ne (Ne.symm hi)]
    by_cases hl : i < qm_cN ci
    · rw [qs_fs hl, qs_fs hl]
      simp [qm_fv, qm_u, hi]
    · simp [hl]
/-- putfield, with the heap's size -/
theorem qs_put {cc : ByteArray} {pc : Nat} {lsR : Array Slot} {rest : List Value} {h : qm_H} {a ci k index o t : Nat} {v : Value} (hexec : p.tables.exec = Jvm.exec) (hb : c.code = cc) (hts : ∀ w ∈ qm_T, w.before args s = true) (hnw : qm_nw s) (hown : s.vm.findClass (qm_oR o) = some m.cls) (hK : va_K D vwCl (qm_tys G) s) (hJ : qm_J D G ad Af s.heap H locs h)
    (hf : qm_fl o index ci k t) (hk : h.1[a]? = some (0, ci)) (hfin : t / 10 % 2 = 1 → t < 20 ∧ meth.name = "<init>" ∧ (qm_cT ci k).1 = qm_oR o) (hn : narrow (qm_cy ci k) v = v) (hfit : fits (qm_cy ci k) v = true) (hdg : decode cc pc = .ok (.putfield index, 3))
    (kk : ∀ (H1 : Heap) (locs1 : List Loc), va_P D vwCl ((qm_W G ad h).set a (ad a, .inr (ci, ((List.range (qm_cN ci)).map (qm_fv ad h a ci)).set k v))) H1 → va_D Af ((qm_W G ad h).set a (ad a, .inr (ci, ((List.range (qm_cN ci)).map (qm_fv ad h a ci)).set k v))) → va_S Af s.heap H1 locs1 → H1.size = H.size → W p l e R s m args below meth c H1 locs1 cells slots Q (F0 m (pc + 3) lsR rest)) :
    W p l e R s m args below meth c H locs cells slots Q (F0 m pc lsR (v :: .ref (ad a) :: rest)) := by
  obtain ⟨f1, f2, f3, f4, f5, f6, f7, f8⟩ := hf
  obtain ⟨hP, hD, hS0, hsz⟩ := hJ
  have he : (qm_W G ad h)[a]? = some (ad a, .inr (ci, (List.range (qm_cN ci)).map (qm_fv ad h a ci))) := qm_W_at hk
  have hc := qm_vw f1
  have hin : ∀ w ∈ u_ws (qm_cR ci) (qm_cT ci) (qm_cN ci), w ∈ qm_T := fun w hw => by
    refine qw_T (qw_u f1 w hw) ?_
    unfold u_ws u_lay at hw
    obtain ⟨j, -, rfl⟩ := List.mem_map.mp hw
    split <;> rfl
  have hap := va_apart (own := qm_oR o) hts hin (qm_cy ci) (qm_ty f1) (qm_nm f1) hK hc
  have hl : k < ((List.range (qm_cN ci)).map (qm_fv ad h a ci)).length := by simpa using f2
  obtain ⟨r, h1, cell, q1, q2, q3, q4⟩ := hP a _ he
  have hr : r = (qm_cR ci, qm_cT ci, qm_cN ci) := Option.some.inj (h1.symm.trans hc)
  subst hr
  obtain ⟨hS, hfc, kC, hkC, hkind⟩ := hK.1 ci _ hc
  obtain ⟨cf, kf, fi, f, hi, hsl⟩ := hS k f2
  have hlay := hts _ (hin _ (u_in_lay f2))
  unfold u_lay at hlay
  have hst := (u_facts hfc hkC (u_lays hts hin f2) hi).1
  have fini : ∀ (H' : Heap), H'[ad a]? = some (cell.setSlot f.slot v) → H'.size = H.size → (∀ q : Nat, q ≠ ad a → H'[q]? = H[q]?) → W p l e R s m args below meth c H' (locs ++ [⟨ad a, f.slot⟩]) cells slots Q (F0 m (pc + 3) lsR rest) := by
    intro H' e1 e2 e3
    rw [hsl] at e1
    exact kk H' _ (hP.set hD he ⟨_, hc, t_OB.to (V := updV (vp_V ((List.range (qm_cN ci)).map (qm_fv ad h a ci))) k v) ⟨_, e1, q2, q3, t_set q4 hap f2 v⟩ (fun j _ => vp_updV_set hl v j)⟩ e3) (hD.set he) (by rw [hsl]; exact hS0.put e2 e3 (hD.2 a _ he)) e2
  by_cases hfn : (qm_cT ci k).2.2.2 = true
  · obtain ⟨g1, g2, g3⟩ := hfin (f5.mpr hfn)
    have hlink : (Cond.fieldLink (qm_oR o) index (qm_cT ci k).1 (qm_cT ci k).2.1 (qm_cT ci k).2.2.1).before args s = true := by
      rcases f4 with ⟨-, q⟩ | ⟨q, -⟩
      · exact hts _ (qw_T q rfl)
      · omega
    rw [if_pos hfn] at hlay
    have hcf : m.cls = cf := by
      obtain ⟨_, _, c', _, _, _, -, -, hf', -, -, -, hown2, -⟩ := Cond.laysFinal_spec hlay
      have e1 : c' = cf := by have := hi.symm.trans hf'; simp at this; exact this.1.symm
      rw [g3] at hown2
      rw [← e1]; exact Option.some.inj (hown.symm.trans hown2)
    have h6 := u_fits hfc hkC hkind (Or.inr hlay) hi (qm_ty f1 k f2) hn hfit
    exact W.putFinK hexec hb hown hlink hi hst hcf g2 (by rw [q2]; exact h6) q1 q3 (by rw [hsl]; exact k2_hasslot (q4 k f2)) rfl rfl hdg fini
  · rw [if_neg hfn] at hlay
    have h6 := u_store hfc hkC hkind hlay hi (qm_ty f1 k f2) hn hfit
    rcases f4 with ⟨-, q⟩ | ⟨-, q⟩
    · exact W.putK hexec hb (f := f) ⟨hown, hts _ (qw_T q rfl), ⟨_, _, _, hi⟩, hst⟩ (by rw [q2]; exact h6) q1 q3 (by rw [hsl]; exact k2_hasslot (q4 k f2)) rfl rfl hdg fini
    · exact va_WputK hexec hb (f := f) hown (va_Nw.use rfl (hnw _ q rfl)) hi hst (by rw [q2]; exact h6) q1 q3 (by rw [hsl]; exact k2_hasslot (q4 k f2)) rfl rfl hdg fini
end QS
