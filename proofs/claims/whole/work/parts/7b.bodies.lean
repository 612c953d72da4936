/-! SEMANTICS: the bodies of statements -/
def ys_kinds (Z S : qm_F) (M br s s' p p' : Nat) : Prop := yl_k0 Z S M s s' p p' ∨ yl_k1 Z S M s s' p p' ∨ yl_k2 Z S M (YL Z S M) br s s' p p' ∨ yl_k3 Z S (YL Z S M) br s s' p p' ∨ yl_k4 Z S M (YL Z S M) br s s' p p' ∨ yl_k5 Z S M (YL Z S M) br s s' p p'
def ys_sag (ψ' : qm_F) (s ns' : Nat) (kd : Int32) (S : qm_F) : Prop := (∀ k, k < 4 → S s k = ys_T ψ' s k) ∧ (kd = 2 → S s 4 = ys_T ψ' s 4) ∧ (∀ s1, s < s1 → s1 < ns' → ∀ k, k < 6 → S s1 k = ys_T ψ' s1 k)
/-- what a body does: x and y are its runs -/
def ys_bdy (n cnt : Nat) (b : Nat → Int32) (T : qm_F) (L : List (Nat × Nat)) (br lt : Nat) (kd : Int32) (φ ψ : qm_F) (t p cd s : Nat) (x y : Option (Int32 × qm_F)) : Prop :=
  (∃ φ' ψ' t' sz' cd' ns', x = some (1, φ') ∧ y = some (1, ψ') ∧ ys_G n cnt b T L br lt φ ψ t (p + 1) cd (144 + 6 * s + 1) φ' ψ' t' sz' cd' ns' ∧ t < t' ∧ sz' + t ≤ p + t' ∧ cd' + t ≤ cd + t' ∧ s < ns' ∧ ns' ≤ 24 ∧ ∀ S, ys_sag ψ' s ns' kd S → ys_kinds (ys_Z φ' ψ') S cd' br s ns' p sz') ∨
  (∃ φ' ψ', x = some (0, φ') ∧ y = some (0, ψ') ∧ ys_bad φ ψ φ' ψ')
section Y11
variable {F nR n cnt t sz cd ns br lt s p : Nat} {b : Nat → Int32} {T φ ψ : qm_F} {L : List (Nat × Nat)}
theorem ys_Ggx {φ' ψ' : qm_F} (h : ys_S n cnt b T t sz cd ns br lt L φ ψ) (h' : ys_S n cnt b T (t + 1) sz cd ns br lt L φ' ψ') (gx : ys_gx φ φ') (gm : ys_gm ψ ψ') (h9 : T 0 t = 97 → ∀ k, k < 5 → ψ 3 (18 + k) ≠ T 4 t) (si : Nat) : ys_G n cnt b T L br lt φ ψ t sz cd si φ' ψ' (t + 1) sz cd ns := by
  refine ⟨h', gx.fx _ _ _, gm.fm _ _ _, by omega, Nat.le_refl _, Nat.le_refl _, fun s h1 h2 => ?_⟩
  have : s = t := by omega
  subst this
  have hx := h.2.1.2.2.1 s (Nat.le_refl _) h.1
  have e6 : φ' 6 s = φ 6 s := gx 6 s (by omega)
  have e9 : φ' 9 s = φ 9 s := gx 9 s (by omega)
  exact ⟨fun z => Or.inr ⟨h9 z, by rw [e6, hx.1, z]⟩, fun z => by rw [e6, e9]; exact hx⟩
theorem ys_ex.fx {φ' : qm_F} {sz : Nat} (h : ys_ex sz φ φ') (l0 t : Nat) {sz' : Nat} (hs : sz' ≤ sz) : ys_fx l0 t sz' φ φ' := fun a j x1 x2 x3 x4 x5 x6 => h a j (by omega) (by omega)
theorem ys_Gem {φ' : qm_F} (h' : ys_S n cnt b T t (sz + 1) cd ns br lt L φ' ψ) (e : ys_ex sz φ φ') (si : Nat) : ys_G n cnt b T L br lt φ ψ t sz cd si φ' ψ t (sz + 1) cd ns :=
  ⟨h', e.fx _ _ (Nat.le_refl _), fun _ _ _ _ _ _ _ => rfl, Nat.le_refl _, by omega, Nat.le_refl _, fun s h1 h2 => by omega⟩
theorem ys_u6 (ψ : qm_F) (i : Nat) (v : Int32) : ∀ a j, ¬ (a = 6 ∧ j = i) → qm_u ψ 6 i v a j = ψ a j := by
  intro a j h
  unfold qm_u
  repeat' split
  all_goals first | rfl | omega
theorem ys_u6s (ψ : qm_F) (i : Nat) (v : Int32) : qm_u ψ 6 i v 6 i = v := by simp [qm_u]
theorem ys_Gw6 (h : ys_S n cnt b T t sz cd ns br lt L φ ψ) {si i : Nat} (hi : si ≤ i) (v : Int32) : ys_G n cnt b T L br lt φ ψ t sz cd si φ (qm_u ψ 6 i v) t sz cd ns :=
  ⟨ys_w6 h i v, fun _ _ _ _ _ _ _ _ => rfl, fun a j x1 x2 x3 x4 x5 => ys_u6 _ _ _ a j (by omega), Nat.le_refl _, Nat.le_refl _, Nat.le_refl _, fun s h1 h2 => by omega⟩
theorem ye_fx.ys {φ' : qm_F} (h : ye_fx t sz φ φ') (l0 : Nat) : ys_fx l0 t sz φ φ' := fun a j x1 x2 x3 x4 x5 x6 => h a j (by omega) (by omega) (by omega) (by omega)
/-- the rest of SET and MUST in the reference -/
def ys_me (F : Nat) (ψ : qm_F) (s : Int32) : Option (Int32 × qm_F) :=
  qb2 (mo_eOf F ψ s) fun y1 φ2 => if y1 = 0 then some (0, φ2) else qb2 (mo_takesSign F φ2 59) fun y2 φ3 => if y2 = 0 then some (0, φ3) else some (1, φ3)
theorem ys_end (hF : 2000 ≤ F) (hK : yk_TK F n cnt b T) (h : ys_S n cnt b T t sz cd ns br lt L φ ψ) (hs : s < 24) (hsz : sz ≤ t + 1) (hcd : cd ≤ t) (o a : Int32) :
    (∃ φ' ψ' t' len, pa_endedBy F nR n cnt φ o a = some (1, φ') ∧ ys_me F ψ (Int32.ofNat s) = some (1, ψ') ∧ ys_G n cnt b T L br lt φ ψ t sz cd (144 + 6 * s + 2) φ' ψ' t' (sz + len + 1) (cd + len) ns ∧ t + len + 1 ≤ t' ∧ t + 2 ≤ t' ∧ yl_E (ys_Z φ' ψ') (cd + len) (ys_T ψ' s 2) (ys_T ψ' s 3) sz (sz + len) ∧ φ' 20 (sz + len) = o ∧ φ' 21 (sz + len) = a) ∨
    (∃ φ' ψ', pa_endedBy F nR n cnt φ o a = some (0, φ') ∧ ys_me F ψ (Int32.ofNat s) = some (0, ψ') ∧ ys_bad φ ψ φ' ψ') := by
  unfold pa_endedBy ys_me
  rcases ys_E (nR := nR) hF hK h hs hsz hcd with ⟨φ1, ψ1, t1, len, x1, x2, l1, l2, S1, fx1, fm1, hE, mk1⟩ | ⟨φ1, ψ1, x1, x2, hb⟩
  · rw [x1, x2]
    simp only [yb2]
    rw [if_neg (by decide), if_neg (by decide)]
    have G1 : ys_G n cnt b T L br lt φ ψ t sz cd (144 + 6 * s + 2) φ1 ψ1 t1 (sz + len) (cd + len) ns := ⟨S1, fx1.ys _, fun a j y1 y2 y3 y4 y5 => fm1 a j (by omega) (by omega) (by omega), by omega, by omega, by omega, mk1⟩
    rcases ys_takes (nR := nR) hK S1 59 (by decide) with ⟨q, φ2, ψ2, x3, x4, S2, gx2, gm2⟩ | ⟨q, φ2, ψ2, x3, x4, hb⟩
    · rw [x3, x4]
      simp only [yb2]
      rw [if_pos (by decide), if_neg (by decide)]
      have ht2 := S2.1
      obtain ⟨φ3, x5, S3, ex3, r1, r2, r3⟩ := ys_emit (nR := nR) hK S2 (by omega) o a 0
      rw [x5]
      simp only [yb2]
      have G2 := ys_Ggx S1 S2 gx2 gm2 (fun z => by rw [q] at z; exact absurd z (by decide)) (144 + 6 * s + 2)
      have G3 := ys_Gem S3 ex3 (144 + 6 * s + 2)
      refine Or.inl ⟨φ3, ψ2, t1 + 1, len, rfl, rfl, (G1.trans G2 (Nat.le_refl _)).trans G3 (Nat.le_refl _), by omega, by omega, ?_, r1, r2⟩
      have e2 : ys_T ψ2 s 2 = ys_T ψ1 s 2 := gm2 6 _ (by omega)
      have e3 : ys_T ψ2 s 3 = ys_T ψ1 s 3 := gm2 6 _ (by omega)
      rw [e2, e3]
      refine hE.cg (Nat.le_refl _) (fun i _ => ⟨gm2 7 _ (by omega), gm2 8 _ (by omega)⟩) (fun i y1 y2 => ⟨?_, ?_⟩)
      · show φ3 20 i = φ1 20 i
        rw [ex3 20 i (by omega) (by omega), gx2 20 i (by omega)]
      · show φ3 21 i = φ1 21 i
        rw [ex3 21 i (by omega) (by omega), gx2 21 i (by omega)]
    · rw [x3, x4]
      simp only [yb2]
      rw [if_neg (by decide), if_pos (by first | trivial | decide)]
      exact Or.inr ⟨φ2, ψ2, rfl, rfl, hb.pre G1.2.1.lo (G1.2.2.1.cf (by omega))⟩
  · rw [x1, x2]
    simp only [yb2]
    rw [if_pos (by first | trivial | decide), if_pos (by first | trivial | decide)]
    exact Or.inr ⟨φ1, ψ1, rfl, rfl, hb⟩
/-- must E ; -/
theorem ys_bMust (hF : 2000 ≤ F) (hK : yk_TK F n cnt b T) (h : ys_S n cnt b T t (p + 1) cd (s + 1) br lt L φ ψ) (hs : s < 24) (hsz : p ≤ t) (hcd : cd ≤ t) (hk : T 0 t = 133) (h0 : ψ 6 (144 + 6 * s) = 1) :
    ys_bdy n cnt b T L br lt 1 φ ψ t p cd s (pa_endedBy F nR n cnt (qm_u φ 10 3 (Int32.ofNat (t + 1))) 13 0) (mo_mustHere F ψ (Int32.ofNat s)) := by
  obtain ⟨ψ1, e1, S1, f1⟩ := ys_next hK h (by rw [hk]; decide) (by rw [hk]; decide)
  have hm : mo_mustHere F ψ (Int32.ofNat s) = ys_me F ψ1 (Int32.ofNat s) := by
    unfold mo_mustHere ys_me
    rw [e1]
    rfl
  have G1 := ys_Ggx h S1 (ys_xgx _) (ys_mgm f1) (fun z => by rw [hk] at z; exact absurd z (by decide)) (144 + 6 * s + 1)
  rw [hm]
  rcases ys_end (nR := nR) hF hK S1 hs (by omega) (by omega) 13 0 with ⟨φ2, ψ2, t2, len, x1, x2, G2, l1, l2, hE, r1, r2⟩ | ⟨φ2, ψ2, x1, x2, hb⟩
  · refine Or.inl ⟨φ2, ψ2, t2, p + 1 + len + 1, cd + len, s + 1, x1, x2, G1.trans G2 (by omega), by omega, by omega, by omega, by omega, by omega, fun S hS => Or.inr (Or.inl ⟨?_, rfl, p + 1 + len, ?_, r1, rfl⟩)⟩
    · rw [hS.1 0 (by omega)]
      show ψ2 6 (144 + 6 * s + 0) = 1
      rw [G2.2.2.1 6 _ (by omega) (by omega) (by omega) (by omega) (by omega), f1 6 _ (by omega)]
      exact h0
    · rw [hS.1 2 (by omega), hS.1 3 (by omega)]
      exact hE
  · exact Or.inr ⟨φ2, ψ2, x1, x2, hb.pre (ys_xgx _).lo (ys_mgm f1).cf⟩
/-- NAME = E ; -/
theorem ys_bSet (hF : 2000 ≤ F) (hK : yk_TK F n cnt b T) (h : ys_S n cnt b T t (p + 1) cd (s + 1) br lt L φ ψ) (hs : s < 24) (hsz : p ≤ t) (hcd : cd ≤ t) (hk : T 0 t = 97) (h0 : ψ 6 (144 + 6 * s) = 0) {kk : Nat} (hkk : yn_lk T (T 3 t) L = Int32.ofNat kk) (hk8 : 8 ≤ kk) (hk15 : kk < 15) (hno : ∀ k, k < 5 → ψ 3 (18 + k) ≠ T 4 t) :
    ys_bdy n cnt b T L br lt 0 φ ψ t p cd s (qb2 (pa_take F nR n cnt (qm_u φ 10 3 (Int32.ofNat (t + 1))) 61) fun y3 φ2 => if y3 = 0 then some (0, φ2) else qb2 (pa_endedBy F nR n cnt φ2 3 (Int32.ofNat kk)) fun y4 φ3 => if y4 = 0 then some (0, φ3) else some (1, φ3)) (mo_setsHere F ψ (Int32.ofNat s)) := by
  have h' := h
  obtain ⟨ht, hX, hM, hN, -⟩ := h'
  have hw : ψ 0 8 = T 4 t := hM.2.1.2.2.2.2 (by rw [hk]; decide)
  have S0 := ys_w6 h (144 + 6 * s + 1) (Int32.ofNat kk)
  have G0 := ys_Gw6 h (si := 144 + 6 * s + 1) (Nat.le_refl _) (Int32.ofNat kk)
  obtain ⟨ψ1, e1, S1, f1⟩ := ys_next hK S0 (by rw [hk]; decide) (by rw [hk]; decide)
  have i1 := ys_ix s 1 hs (by omega)
  have hm : mo_setsHere F ψ (Int32.ofNat s) = qb2 (mo_takesSign F ψ1 61) fun y3 φ2 => if y3 = 0 then some (0, φ2) else ys_me F φ2 (Int32.ofNat s) := by
    unfold mo_setsHere mo_setHere
    rw [ys_at hM.2.2.2.1, hw, yn_m (by omega) hK hN hM.2.2.2.1 ht hk, hkk]
    simp only [yb1]
    rw [if_neg (by rw [show (8 : Int32) = Int32.ofNat 8 from rfl, ya_lt (by omega) (by omega)]; omega)]
    simp only [yb1]
    rw [show (1 : Int32) = Int32.ofNat 1 from rfl, i1.1, i1.2, e1]
    rfl
  have G1 := G0.trans (ys_Ggx S0 S1 (ys_xgx _) (ys_mgm f1) (fun _ => hno) (144 + 6 * s + 1)) (Nat.le_refl _)
  rw [hm]
  rcases ys_takes (nR := nR) hK S1 61 (by decide) with ⟨q, φ2, ψ2, x3, x4, S2, gx2, gm2⟩ | ⟨q, φ2, ψ2, x3, x4, hb⟩
  · rw [x3, x4]
    simp only [yb2]
    rw [if_neg (by decide), if_neg (by decide)]
    have G2 := G1.trans (ys_Ggx S1 S2 gx2 gm2 (fun z => by rw [q] at z; exact absurd z (by decide)) (144 + 6 * s + 1)) (Nat.le_refl _)
    rcases ys_end (nR := nR) hF hK S2 hs (by omega) (by omega) 3 (Int32.ofNat kk) with ⟨φ3, ψ3, t3, len, x5, x6, G3, l1, l2, hE, r1, r2⟩ | ⟨φ3, ψ3, x5, x6, hb⟩
    · rw [x5, x6]
      simp only [yb2]
      rw [if_neg (by decide)]
      refine Or.inl ⟨φ3, ψ3, t3, p + 1 + len + 1, cd + len, s + 1, rfl, rfl, G2.trans G3 (by omega), by omega, by omega, by omega, by omega, by omega, fun S hS => Or.inl ⟨?_, rfl, p + 1 + len, kk, ?_, r1, r2, ?_, hk15, rfl⟩⟩
      · rw [hS.1 0 (by omega)]
        show ψ3 6 (144 + 6 * s + 0) = 0
        rw [G3.2.2.1 6 _ (by omega) (by omega) (by omega) (by omega) (by omega), gm2 6 _ (by omega), f1 6 _ (by omega), ys_u6 _ _ _ 6 _ (by omega)]
        exact h0
      · rw [hS.1 2 (by omega), hS.1 3 (by omega)]
        exact hE
      · rw [hS.1 1 (by omega)]
        show ψ3 6 (144 + 6 * s + 1) = _
        rw [G3.2.2.1 6 _ (by omega) (by omega) (by omega) (by omega) (by omega), gm2 6 _ (by omega), f1 6 _ (by omega), ys_u6s]
    · rw [x5, x6]
      simp only [yb2]
      rw [if_pos (by first | trivial | decide)]
      exact Or.inr ⟨φ3, ψ3, rfl, rfl, hb.pre G2.2.1.lo (G2.2.2.1.cf (by omega))⟩
  · rw [x3, x4]
    simp only [yb2]
    rw [if_pos (by first | trivial | decide), if_pos (by first | trivial | decide)]
    exact Or.inr ⟨φ2, ψ2, rfl, rfl, hb.pre G1.2.1.lo (G1.2.2.1.cf (by omega))⟩
/-- loop NUMBER { } -/
theorem ys_bLoop (hF : 2000 ≤ F) (hK : yk_TK F n cnt b T) {gx gm : Nat → qm_F → Int32 → Int32 → Option (Int32 × qm_F)} (hb : ys_brc n cnt b T (fun φ => gx 2 φ (Int32.ofNat br) (Int32.ofNat lt)) (fun ψ => gm 0 ψ 0 0) L br lt) (h : ys_S n cnt b T t (p + 1) cd (s + 1) br lt L φ ψ) (hs : s < 24) (hsz : p ≤ t) (hcd : cd ≤ t) (hk : T 0 t = 136) (h0 : ψ 6 (144 + 6 * s) = 3) :
    ys_bdy n cnt b T L br lt 3 φ ψ t p cd s (pa_loopStatement F nR n cnt gx (qm_u φ 10 3 (Int32.ofNat (t + 1))) (Int32.ofNat br) (Int32.ofNat lt)) (mo_loopHere F gm ψ (Int32.ofNat s)) := by
  obtain ⟨ψ1, e1, S1, f1⟩ := ys_next hK h (by rw [hk]; decide) (by rw [hk]; decide)
  have G1 := ys_Ggx h S1 (ys_xgx _) (ys_mgm f1) (fun z => by rw [hk] at z; exact absurd z (by decide)) (144 + 6 * s + 1)
  have i1 := ys_ix s 1 hs (by omega)
  unfold pa_loopStatement mo_loopHere mo_numbered
  rw [e1]
  simp only [yb1]
  rcases ys_num (nR := nR) hK S1 1 9 (by omega) (by omega) with ⟨k, φ2, ψ2, q48, e3, k1, k2, x1, x2, S2, gx2, gm2, v1, v2⟩ | ⟨φ2, ψ2, x1, x2, hbad⟩
  · rw [show (1 : Int32) = Int32.ofNat 1 from rfl, show (9 : Int32) = Int32.ofNat 9 from rfl, x1, x2]
    simp only [yb2]
    rw [if_pos (by decide), if_pos (by decide), ys_at S2.2.2.1.2.2.2.1]
    simp only [yb1]
    rw [i1.1, i1.2, v1, v2]
    simp only [yg1, yb2]
    rw [if_neg (by decide)]
    have G2 := G1.trans (ys_Ggx S1 S2 gx2 gm2 (fun z => by rw [q48] at z; exact absurd z (by decide)) (144 + 6 * s + 1)) (Nat.le_refl _)
    have ht2 := S2.1
    have S3 := ys_w6 S2 (144 + 6 * s + 1) (Int32.ofNat k)
    have G3 := G2.trans (ys_Gw6 S2 (si := 144 + 6 * s + 1) (Nat.le_refl _) (Int32.ofNat k)) (Nat.le_refl _)
    obtain ⟨φ3, x5, S4, ex3, r1, r2, r3⟩ := ys_emit (nR := nR) hK S3 (by omega) (Int32.ofNat 9) (Int32.ofNat br) (Int32.ofNat k)
    have G4 := G3.trans (ys_Gem S4 ex3 (144 + 6 * s + 1)) (Nat.le_refl _)
    obtain ⟨φ4, x6, S5, ex4, u1, u2, u3⟩ := ys_emit (nR := nR) hK S4 (by omega) 6 0 0
    have G5 := G4.trans (ys_Gem S5 ex4 (144 + 6 * s + 1)) (Nat.le_refl _)
    rw [x5]
    simp only [yb2]
    rw [x6]
    simp only [yb2]
    rcases hb φ4 _ (t + 1 + 1) (p + 1 + 1 + 1) cd (s + 1) S5 (by omega) (by omega) (by omega) with ⟨φ5, ψ5, t5, sz5, cd5, ns5, x7, x8, G6, l1, l2, l3, l4, l5, l6, hY⟩ | ⟨φ5, ψ5, x7, x8, hbad⟩
    · dsimp only at x7 x8
      rw [x7, x8]
      simp only [yb2]
      rw [if_pos (by decide), if_neg (by decide)]
      have ht5 := G6.1.1
      obtain ⟨φ6, x9, S7, ex6, w1, w2, w3⟩ := ys_emit (nR := nR) hK G6.1 (by omega) 10 (Int32.ofNat br) (Int32.ofNat (p + 1 + 1))
      rw [x9]
      simp only [yb2]
      have G7 := (G5.trans G6 (by omega)).trans (ys_Gem S7 ex6 (144 + 6 * s + 1)) (Nat.le_refl _)
      have hz5 := G6.2.2.2.2.1
      have row : ∀ a j, (a = 20 ∨ a = 21 ∨ a = 22) → j < p + 1 + 1 + 1 → φ6 a j = φ4 a j := fun a j ha hj => by
        rw [ex6 a j (by omega) (by omega), G6.2.1 a j (by omega) (by omega) (by omega) (by omega) (by omega) (by omega)]
      have rowS : ∀ k, k < 6 → ys_T ψ5 s k = ys_T (qm_u ψ2 6 (144 + 6 * s + 1) (Int32.ofNat k)) s k ∨ True := fun _ _ => Or.inr trivial
      refine Or.inl ⟨φ6, ψ5, t5, sz5 + 1, cd5, ns5, rfl, rfl, G7, by omega, by omega, by omega, by omega, l5, fun S hS => Or.inr (Or.inr (Or.inr (Or.inl ⟨?_, sz5, k, k1, k2, ?_, l6, ?_, ?_, ?_, ?_, hz5, ?_, w1, w2, w3, rfl⟩)))⟩
      · rw [hS.1 0 (by omega)]
        show ψ5 6 (144 + 6 * s + 0) = 3
        rw [G6.2.2.1 6 _ (by omega) (by omega) (by omega) (by omega) (by omega), ys_u6 _ _ _ 6 _ (by omega), gm2 6 _ (by omega), f1 6 _ (by omega)]
        exact h0
      · rw [hS.1 1 (by omega)]
        show ψ5 6 (144 + 6 * s + 1) = _
        rw [G6.2.2.1 6 _ (by omega) (by omega) (by omega) (by omega) (by omega), ys_u6s]
      · show φ6 20 (p + 1) = 9
        rw [row 20 _ (by omega) (by omega), ex4 20 _ (by omega) (by omega)]
        exact r1
      · show φ6 21 (p + 1) = _
        rw [row 21 _ (by omega) (by omega), ex4 21 _ (by omega) (by omega)]
        exact r2
      · show φ6 22 (p + 1) = _
        rw [row 22 _ (by omega) (by omega), ex4 22 _ (by omega) (by omega)]
        exact r3
      · show φ6 20 (p + 2) = 6
        rw [row 20 _ (by omega) (by omega)]
        exact u1
      · exact hY.cg (Nat.le_refl _) (fun i _ => ⟨rfl, rfl⟩) (fun i y1 y2 => ⟨ex6 20 i (by omega) (by omega), ex6 21 i (by omega) (by omega), ex6 22 i (by omega) (by omega)⟩) (fun s1 y1 y2 k hk => hS.2.2 s1 (by omega) y2 k hk)
    · dsimp only at x7 x8
      rw [x7, x8]
      simp only [yb2]
      rw [if_neg (by decide), if_pos (by first | trivial | decide)]
      exact Or.inr ⟨φ5, ψ5, rfl, rfl, hbad.pre G5.2.1.lo (G5.2.2.1.cf (by omega))⟩
  · rw [show (1 : Int32) = Int32.ofNat 1 from rfl, show (9 : Int32) = Int32.ofNat 9 from rfl, x1, x2]
    simp only [yb2]
    rw [if_neg (by decide), if_neg (by decide)]
    simp only [yb2]
    rw [if_pos (by first | trivial | decide)]
    exact Or.inr ⟨φ2, ψ2, rfl, rfl, hbad.pre (ys_xgx _).lo (ys_mgm f1).cf⟩
end Y11
