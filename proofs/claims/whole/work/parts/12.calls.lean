/-! CALLS, and the whole run -/
section QC
variable {p : Program} {l : Launch} {e : Env} {R : Room} {s : State} {m : MethodId} {args : Array Value} {below : List Frame} {meth : Method} {c : Code} {H : Heap} {locs : List Loc} {cells slots : Nat} {Q : State → Prop}
variable {D : va_G} {G : ClassId × ClassId × ClassId} {ad : Nat → Nat} {Af : Nat → Prop} {Xp : State → Prop}
theorem qm_stk {st r : List Value} {n : Nat} {v : Value} (h : st.drop n = v :: r) : st.map (qm_cv ad) = (((st.take n).reverse).map (qm_cv ad)).reverse ++ qm_cv ad v :: r.map (qm_cv ad) ∧ (((st.take n).reverse).map (qm_cv ad)).length = n := by
  have h1 : st = st.take n ++ v :: r := by rw [← h, List.take_append_drop]
  have h2 : n ≤ st.length := by
    rcases Nat.lt_or_ge st.length n with q | q
    · rw [List.drop_eq_nil_of_le (by omega)] at h; cases h
    · exact q
  refine ⟨?_, by simp; omega⟩
  conv => lhs; rw [h1]
  simp
set_option maxHeartbeats 4000000 in
theorem qm_callW {r rj : qm_R} {en : qm_e} {pc j d : Nat} {ls st as rest : List Value} {h h1 : qm_H} {v : Option Value} {lsR : Array Slot} (hXP : qm_XP ad Af Xp)
    (X : qm_X p s m args meth c r) (hd : decode r.2.1 pc = .ok (en.1, en.2.1)) (hok : qm_eOK r en) (hln : qm_sw en.1 = true ∨ en.2.1 = qm_len en.1)
    (hK : va_K D vwCl (qm_tys G) s) (hA : ∀ q, s.heap.size ≤ q → Af q) (hXp : Xp s) (hJ : qm_J D G ad Af s.heap H locs h) (hl : qm_L ad lsR r.2.2.1 ls)
    (hs : qm_x r.2.2.2.2.2.1 en pc ls st h = some (.inr (.inr (j, as, rest)))) (hmj : qm_m j = some rj) (hjk : qm_jk rj) (hjN : j < qm_NM)
    (hM : Met l rj.1 (Cond.code rj.1 rj.2.1 rj.2.2.1 rj.2.2.2.1 :: qm_T) (qm_rm d (h1.1.length - h.1.length) (qm_sl h1.1 - qm_sl h.1)) (qm_Pc D G ad Af Xp as h) (qm_Qc D G ad Af v h1) (h1.1.length - h.1.length) (qm_sl h1.1 - qm_sl h.1) Af)
    (hRf : d + 2 ≤ R.frames) (hRl : 40 * d + 80 ≤ R.locals) (hC : cells + (h1.1.length - h.1.length) ≤ R.cells) (hSl : slots + (qm_sl h1.1 - qm_sl h.1) ≤ R.slots)
    (kk : ∀ (H' : Heap) (locs' : List Loc), qm_J D G ad Af s.heap H' locs' h1 → W p l e R s m args below meth c H' locs' (cells + (h1.1.length - h.1.length)) (slots + (qm_sl h1.1 - qm_sl h.1)) Q (F0 m (pc + 3) lsR ((v.toList ++ rest).map (qm_cv ad)))) :
    W p l e R s m args below meth c H locs cells slots Q (F0 m pc lsR (st.map (qm_cv ad))) := by
  have hand := qm_hand hXP X hK hA hXp hJ
  obtain ⟨i, len, ea, eb, et⟩ := en
  obtain ⟨hx, hb, hml, hr, hown, hts, hlk, hnm, hnw⟩ := X
  obtain ⟨j1, j2, j3, j4, j5, j6, -⟩ := id hjk
  have hroom : (qm_rm d (h1.1.length - h.1.length) (qm_sl h1.1 - qm_sl h.1)).frames + 1 ≤ R.frames ∧ 8 + (rj.2.2.1 + 11) + (qm_rm d (h1.1.length - h.1.length) (qm_sl h1.1 - qm_sl h.1)).locals ≤ R.locals := ⟨hRf, by show 8 + (rj.2.2.1 + 11) + (40 * d + 40) ≤ R.locals; omega⟩
  have hkk : ∀ (H' : Heap) (locs' : List Loc), qm_J D G ad Af s.heap H' locs' h1 → W p l e R s m args below meth c H' locs' (cells + (h1.1.length - h.1.length)) (slots + (qm_sl h1.1 - qm_sl h.1)) Q (F0 m (pc + 3) lsR ((v.map (qm_cv ad)).toList ++ rest.map (qm_cv ad))) := by
    intro H' locs' hJ'
    have := kk H' locs' hJ'
    rw [List.map_append] at this
    cases v <;> exact this
  dsimp only at hd hln
  cases i with
  | invokestatic idx =>
    obtain rfl : len = 3 := hln.resolve_left (fun q => by cases q)
    simp only [qm_x] at hs
    split at hs
    · rename_i hc
      obtain ⟨hc1, hc2⟩ := hc
      cases hs
      obtain ⟨rj', w1, w2, w3, w4⟩ := hok
      cases hmj.symm.trans w1
      refine qm_cont (va_runS (As := ((st.take eb).reverse).map (qm_cv ad)) (rest := (st.drop eb).map (qm_cv ad)) ⟨hx, hb, hml, hown, hts⟩ hM ⟨callB_of eb hts (qm_good rj hjk) rfl rfl rfl (hts _ (qw_T j2 rfl)) (hts _ (qw_T w3 rfl)) ⟨j3.1, j3.2, w2⟩ hroom, hts _ (qw_T w4 rfl)⟩ ⟨qm_blind hXP _ _, hand _⟩ rfl (by simp; omega) hl.1 ?_ (lv_room ?_) hd ⟨hC, hSl⟩) hJ.2.2.1 hkk
      · show st.map (qm_cv ad) = _
        rw [List.map_reverse, List.reverse_reverse, ← List.map_append, List.take_append_drop]
      · have := qm_cat_map ad (st.drop eb)
        unfold qm_cat at this hc2
        rw [this]; exact hc2
    · cases hs
  | invokevirtual idx =>
    obtain rfl : len = 3 := hln.resolve_left (fun q => by cases q)
    simp only [qm_x] at hs
    split at hs
    · rename_i b r0 hdr
      split at hs
      · rename_i hc
        obtain ⟨hc1, hc2⟩ := hc
        cases hs
        obtain ⟨rj', w1, w2, w3, w4, w5, w6, w7⟩ := hok
        dsimp only at w1 w2 w3 w4 w5 w6 w7
        cases hmj.symm.trans w1
        have het : et ≠ 99 := fun q => by have := w6.mp q; omega
        obtain ⟨u1, u2⟩ := w7 het
        have hkb := hc2.resolve_left het
        obtain ⟨s1, s2⟩ := qm_stk (ad := ad) hdr
        refine qm_cont (va_runV (C := rj.1.cls) (b := ad b) (As := ((st.take eb).reverse).map (qm_cv ad)) (rest := rest.map (qm_cv ad)) ⟨hx, hb, hml, hown, hts⟩ hM (cwV eb hts ?_ rfl rfl rfl ⟨rfl, j3.1, j3.2, w2⟩ hroom) ⟨qm_blind hXP _ _, ?_, hand _⟩ rfl s2 hl.1 s1 (lv_room ?_) hd ⟨hC, hSl⟩) hJ.2.2.1 hkk
        · intro w hw
          unfold wsV at hw
          rcases List.mem_append.mp hw with hw | hw
          · simp only [List.mem_cons, List.not_mem_nil, or_false] at hw
            rcases hw with rfl | rfl | rfl | rfl
            · exact ⟨qw_T w3 rfl, good_of_word rfl⟩
            · exact ⟨qw_T w4 rfl, good_of_word rfl⟩
            · exact ⟨qw_T w5 rfl, good_of_word rfl⟩
            · exact ⟨qw_T j2 rfl, good_of_word rfl⟩
          · exact qm_good rj hjk w hw
        · rw [u2]
          exact va_recv hK hJ.1 (qm_vw u1) (qm_W_at hkb)
        · have := qm_cat_map ad rest
          unfold qm_cat at this hc1
          rw [this]; exact hc1
      · cases hs
    · cases hs
  | invokespecial idx =>
    obtain rfl : len = 3 := hln.resolve_left (fun q => by cases q)
    simp only [qm_x] at hs
    split at hs
    · split at hs
      · split at hs <;> cases hs
      · cases hs
    · rename_i h999
      split at hs
      · rename_i b r0 hdr
        split at hs
        · rename_i hc1
          cases hs
          obtain ⟨rj', w1, w2, w3, w4, w5, w6, w7⟩ := hok.2 h999
          dsimp only at w1 w2 w3 w4 w5 w6 w7
          cases hmj.symm.trans w1
          rw [w4] at hM
          have hg : GoodIn qm_T (Cond.code rj.1 rj.2.1 rj.2.2.1 none :: qm_T) := by
            have := qm_good rj hjk
            rwa [w4] at this
          obtain ⟨s1, s2⟩ := qm_stk (ad := ad) hdr
          have hcat : ((rest.map (qm_cv ad)).map fun v => v.category).sum ≤ 8 := by
            have := qm_cat_map ad rest
            unfold qm_cat at this hc1
            rw [this]; exact hc1
          rcases w7 with w7 | w7
          · exact qm_cont (va_runI (b := ad b) (As := ((st.take eb).reverse).map (qm_cv ad)) (rest := rest.map (qm_cv ad)) ⟨hx, hb, hml, hown, hts⟩ hM (cwI eb hts hg rfl rfl rfl (hts _ (qw_T j2 rfl)) (hts _ (qw_T w7 rfl)) (hts _ (qw_T w6 rfl)) w3 ⟨j3.1, j3.2, w2⟩ hroom) ⟨qm_blind hXP _ _, hand _⟩ rfl s2 hl.1 s1 (lv_room hcat) hd ⟨hC, hSl⟩) hJ.2.2.1 hkk
          · exact qm_cont (va_runIN (host := "SketchFiller") (b := ad b) (As := ((st.take eb).reverse).map (qm_cv ad)) (rest := rest.map (qm_cv ad)) ⟨hx, hb, hml, hown, hts⟩ hM ⟨va_cnB eb hts hg rfl rfl rfl (hnw _ w7 rfl) (hts _ (qw_T j2 rfl)) ⟨j3.1, j3.2, w2⟩ hroom, w3, hts _ (qw_T w6 rfl)⟩ ⟨qm_blind hXP _ _, hand _⟩ rfl s2 hl.1 s1 (lv_room hcat) hd ⟨hC, hSl⟩) hJ.2.2.1 hkk
        · cases hs
      · cases hs
  | _ =>
    simp only [qm_x, qm_nx, qm_go] at hs
    repeat' split at hs
    all_goals cases hs
/-- all runs of so much fuel -/
def qm_SIM (l : Launch) (D : va_G) (G : ClassId × ClassId × ClassId) (ad : Nat → Nat) (Af : Nat → Prop) (Xp : State → Prop) (f : Nat) : Prop :=
  ∀ (d k : Nat) (r : qm_R) (pc : Nat) (ls st : List Value) (h : qm_H) (v : Option Value) (h' : qm_H), qm_m k = some r → qm_run f d k pc ls st h = some (v, h') →
  ∀ (p : Program) (e : Env) (R : Room) (s : State) (m : MethodId) (args : Array Value) (below : List Frame) (meth : Method) (c : Code) (H : Heap) (locs : List Loc) (cells slots : Nat) (lsR : Array Slot) (mc ms : Nat),
    qm_X p s m args meth c r → va_K D vwCl (qm_tys G) s → (∀ q, s.heap.size ≤ q → Af q) → Xp s → qm_J D G ad Af s.heap H locs h → qm_L ad lsR r.2.2.1 ls → d + 1 ≤ R.frames → 40 * d + 40 ≤ R.locals → mc = cells + (h'.1.length - h.1.length) → ms = slots + (qm_sl h'.1 - qm_sl h.1) → mc ≤ R.cells → ms ≤ R.slots →
    W p l e R s m args below meth c H locs cells slots (MQ below (qm_Qc D G ad Af v h') args s mc ms Af) (F0 m pc lsR (st.map (qm_cv ad)))
theorem qm_met0 {f d k : Nat} {r : qm_R} {as : List Value} {h h' : qm_H} {v : Option Value} (hS : qm_SIM l D G ad Af Xp f) (hjk : qm_jk r) (hm : qm_m k = some r) (hfit : qm_cat as ≤ r.2.2.1) (hrun : qm_run f d k 0 (qm_el r.2.2.1 as) [] h = some (v, h')) :
    Met l r.1 (Cond.code r.1 r.2.1 r.2.2.1 r.2.2.2.1 :: qm_T) (qm_rm d (h'.1.length - h.1.length) (qm_sl h'.1 - qm_sl h.1)) (qm_Pc D G ad Af Xp as h) (qm_Qc D G ad Af v h') (h'.1.length - h.1.length) (qm_sl h'.1 - qm_sl h.1) Af := by
  obtain ⟨j1, j2, j3, j4, j5, j6, -, -, -, -, -, j7⟩ := id hjk
  have j4 : plainName r.1.cls = true := by
    rcases j4 with q | q
    · have hq := j7 q
      cases f with
      | zero => simp [qm_run] at hrun
      | succ f =>
        rw [qm_run, hm] at hrun
        dsimp only at hrun
        rw [hq] at hrun
        simp at hrun
    · exact q
  refine Met.ofW (cc := r.2.1) (maxL := r.2.2.1) (ret := r.2.2.2.1) j4 rfl ?_
  intro p e s m args below meth c s₁ B hml hv
  obtain ⟨rfl, hP, hD, hK, hz, hA, hXp, hnw⟩ := hv
  have hts := atoms_spec (ws := Cond.code r.1 r.2.1 r.2.2.1 r.2.2.2.1 :: qm_T) B.pre
  rw [lg_entry_eq]
  refine hS d k r 0 (qm_el r.2.2.1 as) [] h v h' hm hrun p e _ s m _ below meth c s.heap [] 0 0 _ _ _ ⟨B.exec, B.bytes, hml, B.returns, by rw [j6]; exact findClass_of_methodNamed B.named, fun w hw => hts w (List.mem_cons_of_mem _ hw), B.notSynchronized, (name_of_methodNamed B.named B.method).1, hnw⟩ hK hA hXp ⟨hP, hD, va_S.rf, hz⟩ (qm_entry ad hfit) (Nat.le_refl _) (Nat.le_refl _) (Nat.zero_add _).symm (Nat.zero_add _).symm (Nat.le_refl _) (Nat.le_refl _)
theorem qm_sim (hfk : ∀ (k : Nat) (r : qm_R), qm_m k = some r → qm_rk r) (hXP : qm_XP ad Af Xp) (hPR : qm_PR l D G ad Af Xp) : ∀ f, qm_SIM l D G ad Af Xp f := by
  intro f
  induction f with
  | zero => intro d k r pc ls st h v h' hm hs; simp [qm_run] at hs
  | succ f ih =>
    intro d k r pc ls st h v h' hm hs p e R s m args below meth c H locs cells slots lsR mc ms X hK hA hXp hJ hl hRf hRl hmc hms hC hSl
    have hpre := qm_le (qm_preR _ _ _ _ _ _ _ _ _ hs)
    obtain ⟨hjk, hen⟩ := hfk k r hm
    rw [qm_run, hm] at hs
    dsimp only at hs
    split at hs
    · rename_i en hc
      obtain ⟨hd, hok, hln⟩ := hen pc en hc
      split at hs
      · cases hs
      · rename_i pc' ls' st' h1 hx
        have h1p := qm_le (qm_pre hx)
        have h2p := qm_le (qm_preR _ _ _ _ _ _ _ _ _ hs)
        refine qm_one X hd hok hln hK hA (hXP.2.1 s hXp) hJ hl hx ⟨by omega, by omega⟩ (by omega) (by omega) (fun H' locs' lsR' hJ' hl' => ?_)
        exact ih d k r pc' ls' st' h1 v h' hm hs p e R s m args below meth c H' locs' _ _ lsR' mc ms X hK hA hXp hJ' hl' hRf hRl (by omega) (by omega) hC hSl
      · rename_i v0 hx
        cases hs
        rw [Nat.sub_self, Nat.add_zero] at hmc hms
        subst hmc; subst hms
        exact qm_end X hjk hd hln hJ hx
      · rename_i j as rest hx
        split at hs
        · cases hs
        · rename_i d'
          split at hs
          · cases hs
          · rename_i rj hmj
            split at hs
            · cases hs
            · rename_i v1 h1 hc1
              have h2p := qm_le (qm_preR _ _ _ _ _ _ _ _ _ hs)
              split at hc1
              · rename_i hNM
                split at hc1
                · rename_i h8
                  have h1p := qm_le (qm_preP hc1)
                  refine hPR p e R s m args below meth c H locs cells slots _ r en pc ls st h h1 lsR j as rest v1 X hd hok hln hK hA hXp hJ hl hx hNM hc1 (by omega) (by omega) (by omega) (by omega) (fun H' locs' hJ' => ?_)
                  exact ih (d' + 1) k r (pc + 3) ls _ h1 v h' hm hs p e R s m args below meth c H' locs' _ _ lsR mc ms X hK hA hXp hJ' hl hRf hRl (by omega) (by omega) hC hSl
                · cases hc1
              · rename_i hNM
                split at hc1
                · rename_i hfit
                  have h1p := qm_le (qm_preR _ _ _ _ _ _ _ _ _ hc1)
                  obtain ⟨hjkj, -⟩ := hfk j rj hmj
                  refine qm_callW hXP X hd hok hln hK hA hXp hJ hl hx hmj hjkj (by omega) (qm_met0 ih hjkj hmj hfit hc1) (by omega) (by omega) (by omega) (by omega) (fun H' locs' hJ' => ?_)
                  exact ih (d' + 1) k r (pc + 3) ls _ h1 v h' hm hs p e R s m args below meth c H' locs' _ _ lsR mc ms X hK hA hXp hJ' hl hRf hRl (by omega) (by omega) hC hSl
                · cases hc1
    · cases hs
end QC
