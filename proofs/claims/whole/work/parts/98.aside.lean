/-! THE LAW'S SKETCH where there is one already: the old search stays aside -/
def qE_g (r : Nat) : Nat := if r < 4 then r + 100 else r - 4
/-- cells 4.. of a world, as a world of their own -/
def qE_hT (h : qm_H) : qm_H := (h.1.drop 4, fun i j => h.2.1 (i + 4) j, fun i j => (h.2.2 (i + 4) j).map qE_g)
def qE_aT (ax : Nat → Nat) (a : Nat) : Nat := if a < 100 then ax (a + 4) else ax (a - 100)
def qE_a4 (ax : Nat → Nat) (a : Nat) : Nat := if a < 4 then ax a else ax 30
section QE8
variable {D : va_G} {G : ClassId × ClassId × ClassId} {z0 : Nat} {H : Heap} {A A' : Nat → Prop} {ax : Nat → Nat} {nR nN nT gg : Nat} {ρ : Nat → Nat → Option Nat} {φ : qm_F}
theorem qE_sk30 (a j r : Nat) (ha : a < 4) (h : c4_R (sk_R (some 30)) a j = some r) : r < 4 ∨ r = 30 := by
  rcases qE_sk (some 30) a j r h with z | ⟨rfl, rfl | rfl⟩
  · exact Or.inl z.1
  · rw [qE_01] at h
    have := Option.some.inj h
    exact Or.inl (by omega)
  · have e : c4_R (sk_R (some 30)) 0 2 = some 30 := rfl
    rw [e] at h
    exact Or.inr (Option.some.inj h).symm
/-- the first four cells: the same references, the search under its own number -/
theorem qE_30 (z : Nat) (a j : Nat) {f f' : Nat → Nat} (h : ∀ r, r < 4 → f r = f' r) (h2 : f 30 = f' z) : (c4_R (sk_R (some 30)) a j).map f = (c4_R (sk_R (some z)) a j).map f' := by
  by_cases q : a = 0 ∧ j = 2
  · obtain ⟨rfl, rfl⟩ := q
    show some (f 30) = some (f' z)
    rw [h2]
  · rw [qE_02 (some z) (some 30) q]
    cases hr : c4_R (sk_R (some 30)) a j with
    | none => rfl
    | some r =>
      rcases qE_sk (some 30) a j r hr with y | ⟨y1, y2 | y2⟩
      · show some (f r) = some (f' r)
        rw [h r y.1]
      · subst y1 y2
        rw [qE_01] at hr
        have := Option.some.inj hr
        show some (f r) = some (f' r)
        rw [h r (by omega)]
      · exact absurd ⟨y1, y2⟩ q
theorem qE_C4 (C : qL_C D G z0 H A ax (cs nR nN nT gg [] ρ φ)) (hρ : qE_clo ρ) : qL_C D G z0 H A (qE_a4 ax) (c4 nR [] (sk_R (some 1000004)) φ) := by
  refine C.sub (σ := fun i => i) (fun i hi => ?_) (fun i j _ _ e => e) (fun i hi => ?_) (fun i j _ => rfl) (fun i j hi => ?_)
  · match i, hi with
    | 0, _ => rfl
    | 1, _ => rfl
    | 2, _ => rfl
    | 3, _ => rfl
    | i + 4, h => exact absurd (show i + 4 < 4 from h) (by omega)
  · unfold qE_a4
    rw [if_pos (show i < 4 from hi)]
  · show (c4_R (sk_R (some 1000004)) i j).map (qE_a4 ax) = (c4_R (ct_R (cw_R (cr_R (cs_R ρ)))) i j).map ax
    rw [hρ.2 i j hi]
    refine (qE_30 1000004 i j (fun r hr => ?_) ?_).symm
    · unfold qE_a4
      rw [if_pos hr]
    · unfold qE_a4
      rw [if_neg (by omega)]
theorem qE_CT (C : qL_C D G z0 H A ax (cs nR nN nT gg [] ρ φ)) (hρ : qE_clo ρ) : qL_C D G z0 H A (qE_aT ax) (qE_hT (cs nR nN nT gg [] ρ φ)) := by
  have hlen : (qE_hT (cs nR nN nT gg [] ρ φ)).1.length = 30 := rfl
  refine C.sub (σ := fun i => i + 4) (fun i hi => ?_) (fun i j _ _ e => by simpa using e) (fun i hi => ?_) (fun i j _ => rfl) (fun i j hi => ?_)
  · show (cs nR nN nT gg [] ρ φ).1[i + 4]? = ((cs nR nN nT gg [] ρ φ).1.drop 4)[i]?
    rw [List.getElem?_drop, Nat.add_comm]
  · unfold qE_aT
    rw [hlen] at hi
    rw [if_pos (by omega)]
  · rw [hlen] at hi
    show ((c4_R (ct_R (cw_R (cr_R (cs_R ρ)))) (i + 4) j).map qE_g).map (qE_aT ax) = (c4_R (ct_R (cw_R (cr_R (cs_R ρ)))) (i + 4) j).map ax
    cases hr : c4_R (ct_R (cw_R (cr_R (cs_R ρ)))) (i + 4) j with
    | none => rfl
    | some r =>
      have := hρ.1 (i + 4) j r (by omega) hr
      show some (qE_aT ax (qE_g r)) = some (ax r)
      congr 1
      unfold qE_aT qE_g
      by_cases z : r < 4
      · rw [if_pos z, if_neg (by omega), Nat.add_sub_cancel]
      · rw [if_neg z, if_pos (by omega), Nat.sub_add_cancel (by omega)]
/-- the old search and the four cells after it as one -/
theorem qE_back {A1 A2 : Nat → Prop} {a1 : Nat → Nat} {h1 : qm_H} {φ1 : qm_F} (C1 : qL_C D G z0 H A1 a1 h1) (C2 : qL_C D G z0 H A2 (qE_aT ax) (qE_hT (cs nR nN nT gg [] ρ φ))) (hd : ∀ q, A1 q → ¬ A2 q) (hρ : qE_clo ρ) (e1 : ∀ i, i < 4 → a1 i = ax i) (e2 : a1 1000004 = ax 30) (k1 : ∀ i, i < 4 → h1.1[i]? = (cs nR nN nT gg [] ρ φ).1[i]?) (k2 : h1.2.1 = φ1) (k3 : ∀ i j, i < 4 → h1.2.2 i j = c4_R (sk_R (some 1000004)) i j) :
    qL_C D G z0 H (fun q => A1 q ∨ A2 q) ax (cs nR nN nT gg [] ρ (fun a j => if a < 4 then φ1 a j else φ a j)) := by
  have hl34 : (cs nR nN nT gg [] ρ (fun a j => if a < 4 then φ1 a j else φ a j)).1.length = 34 := rfl
  refine C1.join C2 hd 4 (fun i q hq => ?_)
  have hi := (qE_Wl hq).1
  rw [hl34] at hi
  by_cases z : i < 4
  · left
    refine ⟨z, qE_We (h := h1) (h' := cs nR nN nT gg [] ρ (fun a j => if a < 4 then φ1 a j else φ a j)) (k := i) (by rw [hl34]; exact hi) (k1 i z) (e1 i z).symm (fun j => ?_) (fun j => ?_) hq⟩
    · show (if i < 4 then φ1 i j else φ i j) = h1.2.1 i j
      rw [if_pos z, k2]
    · show (c4_R (ct_R (cw_R (cr_R (cs_R ρ)))) i j).map ax = (h1.2.2 i j).map a1
      rw [hρ.2 i j z, k3 i j z]
      exact qE_30 1000004 i j (fun r hr => (e1 r hr).symm) e2.symm
  · right
    have hlT : (qE_hT (cs nR nN nT gg [] ρ φ)).1.length = 30 := rfl
    refine ⟨by omega, qE_We (h := qE_hT (cs nR nN nT gg [] ρ φ)) (h' := cs nR nN nT gg [] ρ (fun a j => if a < 4 then φ1 a j else φ a j)) (k := i - 4) (by rw [hl34]; exact hi) ?_ ?_ (fun j => ?_) (fun j => ?_) hq⟩
    · show ((cs nR nN nT gg [] ρ φ).1.drop 4)[i - 4]? = (cs nR nN nT gg [] ρ φ).1[i]?
      rw [List.getElem?_drop, show 4 + (i - 4) = i by omega]
    · unfold qE_aT
      rw [if_pos (by omega), Nat.sub_add_cancel (by omega)]
    · show (if i < 4 then φ1 i j else φ i j) = φ (i - 4 + 4) j
      rw [if_neg z, Nat.sub_add_cancel (by omega)]
    · show (c4_R (ct_R (cw_R (cr_R (cs_R ρ)))) i j).map ax = ((c4_R (ct_R (cw_R (cr_R (cs_R ρ)))) (i - 4 + 4) j).map qE_g).map (qE_aT ax)
      rw [Nat.sub_add_cancel (by omega)]
      cases hr : c4_R (ct_R (cw_R (cr_R (cs_R ρ)))) i j with
      | none => rfl
      | some r =>
        have := hρ.1 i j r hi hr
        have er : qE_aT ax (qE_g r) = ax r := by
          unfold qE_aT qE_g
          by_cases y : r < 4
          · rw [if_pos y, if_neg (by omega), Nat.add_sub_cancel]
          · rw [if_neg y, if_pos (by omega), Nat.sub_add_cancel (by omega)]
        exact congrArg some er.symm
end QE8
