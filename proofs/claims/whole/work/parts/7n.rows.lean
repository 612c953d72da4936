/-! SEMANTICS: runs, expressions worked out by both -/
def rv_bop (c x y : Int32) : Int32 := if c = 38 then x &&& y else if c = 42 then x * y else if c = 43 then x + y else if c = 45 then x - y else if c = 47 then x / y else if c = 60 then (if y ≤ x then 0 else 1) else if c = 61 then (if x = y then 1 else 0) else if c = 94 then x ^^^ y else if c = 124 then x ||| y else x - x / y * y
def rv_1 (mk : Int32) (sl : Nat → Int32) (c v : Int32) (st : List Int32) : Option (List Int32) :=
  if c = 0 then some ((v &&& mk) :: st) else if c = 1 then some ((sl v.toNatClampNeg &&& mk) :: st)
  else if c = 2 then (match st with | x :: r => some ((-x &&& mk) :: r) | [] => some [])
  else if c = 3 then (match st with | x :: r => some (((x ^^^ (-1)) &&& mk) :: r) | [] => some [])
  else match st with | y :: x :: r => (if (c = 47 ∨ c = 37) ∧ y = 0 then none else some ((rv_bop c x y &&& mk) :: r)) | _ => some []
def rv_n (mk : Int32) (sl : Nat → Int32) (C V : Nat → Int32) : Nat → Nat → List Int32 → Option (List Int32)
  | _, 0, st => some st
  | a, n + 1, st => match rv_1 mk sl (C a) (V a) st with
    | none => none
    | some st' => rv_n mk sl C V (a + 1) n st'
def rv_s (f : Nat → Int32) : List Int32 → Prop
  | [] => True
  | x :: r => f r.length = x ∧ rv_s f r
theorem rv_s.cg {f f' : Nat → Int32} : ∀ {st : List Int32}, rv_s f st → (∀ j, j < st.length → f' j = f j) → rv_s f' st := by
  intro st
  induction st with
  | nil => intro _ _; trivial
  | cons x r ih => intro h h'; exact ⟨by rw [h' _ (by simp)]; exact h.1, ih h.2 (fun j hj => h' j (by simp; omega))⟩
section R0
variable {F nR nN nT gg : Nat} {φ ψ : qm_F} {mk c v o a g : Int32} {st : List Int32} {h' : Nat}
theorem rx_push (h5 : φ 26 5 = Int32.ofNat st.length) (hl : st.length < 64) (x : Int32) : ma_push F nR nN nT gg φ x = some (qm_u (qm_u φ 29 st.length (x &&& φ 26 1)) 26 5 (Int32.ofNat (st.length + 1))) := by
  unfold ma_push
  rw [h5, if_neg (ya_lt0 (by omega)), if_neg (by rw [show (64 : Int32) = Int32.ofNat 64 from rfl, ya_le (by omega) (by omega)]; omega), ya_in (by omega) (by omega), ya_nn (by omega), ya_add1]
  rfl
theorem rx_pop {x : Int32} {r : List Int32} (h5 : φ 26 5 = Int32.ofNat (x :: r).length) (hl : (x :: r).length ≤ 64) (hs : rv_s (φ 29) (x :: r)) : ma_pop F nR nN nT gg φ = some (x, qm_u φ 26 5 (Int32.ofNat r.length)) := by
  have e : (x :: r).length = r.length + 1 := rfl
  rw [e] at h5 hl
  unfold ma_pop
  rw [h5, if_neg (by rw [show (0 : Int32) = Int32.ofNat 0 from rfl, ya_le (by omega) (by omega)]; omega), if_pos (by rw [show (64 : Int32) = Int32.ofNat 64 from rfl, ya_le (by omega) (by omega)]; omega), ya_sub1 (by omega), Nat.add_sub_cancel, ya_in (by omega) (by omega), ya_nn (by omega), hs.1]
  rfl
theorem rr_push (h5 : ψ 0 36 = Int32.ofNat st.length) (hl : st.length < 64) (x : Int32) : mo_push F ψ x = some (qm_u (qm_u ψ 18 st.length (x &&& ((1 <<< ((ψ 2 0) &&& 31)) - 1))) 0 36 (Int32.ofNat (st.length + 1))) := by
  unfold mo_push mo_mask
  simp only [yb1]
  rw [h5, ya_in (by omega) (by omega), ya_nn (by omega), ya_add1]
  rfl
theorem rr_pop {x : Int32} {r : List Int32} (h5 : ψ 0 36 = Int32.ofNat (x :: r).length) (hl : (x :: r).length ≤ 64) (hs : rv_s (ψ 18) (x :: r)) : mo_pop F ψ = some (x, qm_u ψ 0 36 (Int32.ofNat r.length)) := by
  have e : (x :: r).length = r.length + 1 := rfl
  rw [e] at h5 hl
  unfold mo_pop
  rw [h5, ya_sub1 (by omega), Nat.add_sub_cancel, ya_in (by omega) (by omega), ya_nn (by omega), hs.1]
  rfl
def rx_f (φ φ' : qm_F) : Prop := ∀ a j, ¬ (a = 26 ∧ (j = 5 ∨ j = 9)) → ¬ (a = 29) → φ' a j = φ a j
def rr_f (ψ ψ' : qm_F) : Prop := ∀ a j, ¬ (a = 0 ∧ (j = 36 ∨ j = 38)) → ¬ (a = 18) → ψ' a j = ψ a j
theorem rv_h1 (h : ye_h1 c st.length = some h') (hl : st.length ≤ 64) : (c = 0 ∨ c = 1 → st.length < 64 ∧ h' = st.length + 1) ∧ (c = 2 ∨ c = 3 → 1 ≤ st.length ∧ h' = st.length) ∧ (¬ (c = 0 ∨ c = 1) → ¬ (c = 2 ∨ c = 3) → 2 ≤ st.length ∧ h' = st.length - 1) := by
  unfold ye_h1 at h
  refine ⟨fun q => ?_, fun q => ?_, fun q1 q2 => ?_⟩
  · rw [if_pos q] at h
    split at h
    · rename_i z; cases h; exact ⟨z, rfl⟩
    · cases h
  · rw [if_neg (by rcases q with rfl | rfl <;> decide), if_pos q] at h
    split at h
    · rename_i z; cases h; exact ⟨z, rfl⟩
    · cases h
  · rw [if_neg q1, if_neg q2] at h
    split at h
    · rename_i z; cases h; exact ⟨z, rfl⟩
    · cases h
/-- a row of an expression's code, in the component -/
theorem rx_1 (hm : φ 26 1 = mk) (hcm : ye_cm c v o a) (h5 : φ 26 5 = Int32.ofNat st.length) (hl : st.length ≤ 64) (hs : rv_s (φ 29) st) (hh : ye_h1 c st.length = some h') :
    (∃ st' φ', rv_1 mk (φ 27) c v st = some st' ∧ ma_perform F nR nN nT gg φ o a g = some φ' ∧ φ' 26 5 = Int32.ofNat st'.length ∧ rv_s (φ' 29) st' ∧ st'.length = h' ∧ rx_f φ φ' ∧ φ' 26 9 = φ 26 9) ∨ (rv_1 mk (φ 27) c v st = none ∧ ∃ φ', ma_perform F nR nN nT gg φ o a g = some φ' ∧ φ' 26 9 = 3 ∧ rx_f φ φ') := by
  obtain ⟨k1, k2, k3⟩ := rv_h1 hh hl
  have pushed : ∀ (φ0 : qm_F) (st0 : List Int32) (x : Int32), rx_f φ φ0 → φ0 26 9 = φ 26 9 → φ0 26 5 = Int32.ofNat st0.length → st0.length < 64 → rv_s (φ0 29) st0 → ∃ φ', ma_push F nR nN nT gg φ0 x = some φ' ∧ φ' 26 5 = Int32.ofNat ((x &&& mk) :: st0).length ∧ rv_s (φ' 29) ((x &&& mk) :: st0) ∧ rx_f φ φ' ∧ φ' 26 9 = φ 26 9 := by
    intro φ0 st0 x f0 e9 e5 el es
    have em : φ0 26 1 = mk := by rw [f0 26 1 (by omega) (by omega)]; exact hm
    refine ⟨_, rx_push e5 el x, rfl, ⟨?_, es.cg (fun j hj => ?_)⟩, ?_, e9⟩
    · rw [em]; simp [qm_u]
    · have : j ≠ st0.length := by omega
      simp [qm_u, this]
    · intro a j y1 y2
      rw [← f0 a j y1 y2]
      unfold qm_u
      repeat' split
      all_goals first | rfl | omega
  rcases hcm with ⟨c0, o1, av⟩ | ⟨c1, o2, av, kk, hk, hv⟩ | ⟨c2, o4⟩ | ⟨c3, o5⟩ | ⟨oc, hb⟩
  · obtain ⟨l1, l2⟩ := k1 (Or.inl c0)
    obtain ⟨φ', e, p1, p2, p3, p4⟩ := pushed φ st v (fun _ _ _ _ => rfl) rfl h5 l1 hs
    refine Or.inl ⟨(v &&& mk) :: st, φ', by unfold rv_1; rw [if_pos c0], ?_, p1, p2, by simp [l2], p3, p4⟩
    unfold ma_perform
    rw [if_pos o1, av, e]
    rfl
  · obtain ⟨l1, l2⟩ := k1 (Or.inr c1)
    obtain ⟨φ', e, p1, p2, p3, p4⟩ := pushed φ st (φ 27 kk) (fun _ _ _ _ => rfl) rfl h5 l1 hs
    refine Or.inl ⟨(φ 27 kk &&& mk) :: st, φ', by unfold rv_1; rw [if_neg (by rw [c1]; decide), if_pos c1, hv, ya_nn (by omega)], ?_, p1, p2, by simp [l2], p3, p4⟩
    unfold ma_perform ma_perform_L104
    rw [if_neg (by rw [o2]; decide), if_pos o2, av, hv, if_neg (ya_lt0 (by omega)), if_neg (by rw [show (15 : Int32) = Int32.ofNat 15 from rfl, ya_le (by omega) (by omega)]; omega), ya_in (by omega) (by omega), ya_nn (by omega), e]
    rfl
  · obtain ⟨l1, l2⟩ := k2 (Or.inl c2)
    cases st with
    | nil => simp at l1
    | cons x r =>
      have e1 := rx_pop (F := F) (nR := nR) (nN := nN) (nT := nT) (gg := gg) h5 hl hs
      have hl' : r.length + 1 ≤ 64 := hl
      obtain ⟨φ', e, p1, p2, p3, p4⟩ := pushed (qm_u φ 26 5 (Int32.ofNat r.length)) r (-x) (fun a j y1 y2 => by
        unfold qm_u
        repeat' split
        all_goals first | rfl | omega) rfl rfl (by omega) hs.2
      refine Or.inl ⟨(-x &&& mk) :: r, φ', by unfold rv_1; rw [if_neg (by rw [c2]; decide), if_neg (by rw [c2]; decide), if_pos c2], ?_, p1, p2, by simp [l2], p3, p4⟩
      unfold ma_perform
      rw [if_neg (by rw [o4]; decide), if_neg (by rw [o4]; decide), if_neg (by rw [o4]; decide), if_pos o4, e1]
      simp only [yb2]
      rw [e]
      rfl
  · obtain ⟨l1, l2⟩ := k2 (Or.inr c3)
    cases st with
    | nil => simp at l1
    | cons x r =>
      have e1 := rx_pop (F := F) (nR := nR) (nN := nN) (nT := nT) (gg := gg) h5 hl hs
      have hl' : r.length + 1 ≤ 64 := hl
      obtain ⟨φ', e, p1, p2, p3, p4⟩ := pushed (qm_u φ 26 5 (Int32.ofNat r.length)) r (x ^^^ (-1)) (fun a j y1 y2 => by
        unfold qm_u
        repeat' split
        all_goals first | rfl | omega) rfl rfl (by omega) hs.2
      refine Or.inl ⟨((x ^^^ (-1)) &&& mk) :: r, φ', by unfold rv_1; rw [if_neg (by rw [c3]; decide), if_neg (by rw [c3]; decide), if_neg (by rw [c3]; decide), if_pos c3], ?_, p1, p2, by simp [l2], p3, p4⟩
      unfold ma_perform
      rw [if_neg (by rw [o5]; decide), if_neg (by rw [o5]; decide), if_neg (by rw [o5]; decide), if_neg (by rw [o5]; decide), if_pos o5, e1]
      simp only [yb2]
      rw [e]
      rfl
  · have hb' := hb
    unfold ye_bin at hb'
    have nc : ¬ c = 0 ∧ ¬ c = 1 ∧ ¬ c = 2 ∧ ¬ c = 3 := by rcases hb' with rfl | rfl | rfl | rfl | rfl | rfl | rfl | rfl | rfl | rfl <;> decide
    obtain ⟨l1, l2⟩ := k3 (by simp [nc]) (by simp [nc])
    match st, l1, l2, h5, hl, hs with
    | [], l1, _, _, _, _ => simp at l1
    | [_], l1, _, _, _, _ => simp at l1
    | y :: x :: r, l1, l2, h5, hl, hs =>
      have hl' : r.length + 2 ≤ 64 := hl
      have h5' : φ 26 5 = Int32.ofNat (r.length + 2) := h5
      have ey : φ 29 (r.length + 1) = y := hs.1
      have ex : φ 29 r.length = x := hs.2.1
      have hpf : ma_perform F nR nN nT gg φ o a g = qb1 (ma_join F nR nN nT gg φ c) fun φ16 => some φ16 := by
        unfold ma_perform
        rw [oc]
        have : ¬ c = 1 ∧ ¬ c = 2 ∧ ¬ c = 3 ∧ ¬ c = 4 ∧ ¬ c = 5 ∧ ¬ c = 6 ∧ ¬ c = 7 ∧ ¬ c = 8 ∧ ¬ c = 9 ∧ ¬ c = 10 ∧ ¬ c = 11 ∧ ¬ c = 12 ∧ ¬ c = 13 ∧ ¬ c = 14 := by rcases hb' with rfl | rfl | rfl | rfl | rfl | rfl | rfl | rfl | rfl | rfl <;> decide
        obtain ⟨n1, n2, n3, n4, n5, n6, n7, n8, n9, n10, n11, n12, n13, n14⟩ := this
        rw [if_neg n1, if_neg n2, if_neg n3, if_neg n4, if_neg n5, if_neg n6, if_neg n7, if_neg n8, if_neg n9, if_neg n10, if_neg n11, if_neg n12, if_neg n13, if_neg n14]
      obtain ⟨φ1, e1⟩ : ∃ φ1, φ1 = qm_u φ 26 5 (Int32.ofNat (r.length + 1)) := ⟨_, rfl⟩
      have hj : ma_join F nR nN nT gg φ c = if (c = 47 ∨ c = 37) ∧ y = 0 then some (qm_u φ1 26 9 3) else ma_join_L77 F nR nN nT gg φ1 c y x := by
        unfold ma_join ma_join_L67
        rw [h5', if_neg (by rw [show (2 : Int32) = Int32.ofNat 2 from rfl, ya_lt (by omega) (by omega)]; omega), if_pos (by rw [show (64 : Int32) = Int32.ofNat 64 from rfl, ya_le (by omega) (by omega)]; omega), ya_sub1 (by omega), show Int32.ofNat (r.length + 2) - 2 = Int32.ofNat r.length from ya_sub (a := r.length + 2) (b := 2) (by omega), show r.length + 2 - 1 = r.length + 1 by omega, ya_in (by omega) (by omega), ya_in (by omega) (by omega), ya_nn (by omega), ya_nn (by omega), ey, ex, ← e1]
        simp only [yg1]
        by_cases q47 : c = 47
        · rw [if_pos q47]
          by_cases qy : y = 0
          · rw [if_neg (by simp [qy]), if_pos ⟨Or.inl q47, qy⟩]
          · rw [if_pos qy, if_neg (fun z => qy z.2)]
        · rw [if_neg q47]
          by_cases q37 : c = 37
          · rw [if_neg (by simp [q37])]
            by_cases qy : y = 0
            · rw [if_neg (by simp [qy]), if_pos ⟨Or.inr q37, qy⟩]
            · rw [if_pos qy, if_neg (fun z => qy z.2)]
          · rw [if_pos q37, if_neg (fun z => by rcases z.1 with z | z; exact q47 z; exact q37 z)]
      have f1 : rx_f φ φ1 := by
        intro a j y1 y2
        rw [e1]
        unfold qm_u
        repeat' split
        all_goals first | rfl | omega
      by_cases qd : (c = 47 ∨ c = 37) ∧ y = 0
      · rw [if_pos qd] at hj
        refine Or.inr ⟨?_, qm_u φ1 26 9 3, by rw [hpf, hj]; rfl, rfl, ?_⟩
        · unfold rv_1
          rw [if_neg nc.1, if_neg nc.2.1, if_neg nc.2.2.1, if_neg nc.2.2.2]
          simp only [qd, and_self, if_true]
        · intro a j y1 y2
          rw [← f1 a j y1 y2]
          unfold qm_u
          repeat' split
          all_goals first | rfl | omega
      · rw [if_neg qd] at hj
        have h1 : φ1 26 5 = Int32.ofNat (r.length + 1) := by rw [e1]; rfl
        have hm1 : φ1 26 1 = mk := by rw [f1 26 1 (by omega) (by omega)]; exact hm
        have l282 : ∀ w, ma_join_L282 F nR nN nT gg φ1 w = some (qm_u φ1 29 r.length (w &&& mk)) := by
          intro w
          unfold ma_join_L282
          rw [h1, ya_sub1 (by omega), Nat.add_sub_cancel, ya_in (by omega) (by omega), ya_nn (by omega), hm1]
          rfl
        have h77 : ma_join_L77 F nR nN nT gg φ1 c y x = some (qm_u φ1 29 r.length (rv_bop c x y &&& mk)) := by
          unfold ma_join_L77 ma_join_L206 ma_join_L221 ma_join_L261 ma_join_L277
          simp only [l282]
          unfold rv_bop
          have gy : c = 47 ∨ c = 37 → ¬ y = 0 := fun q z => qd ⟨q, z⟩
          rcases hb' with rfl | rfl | rfl | rfl | rfl | rfl | rfl | rfl | rfl | rfl
          · rfl
          · rfl
          · rfl
          · by_cases z : x = y
            · simp [z]
            · simp [z]
          · by_cases z : y ≤ x
            · simp [z]
            · simp [z]
          · rfl
          · rfl
          · rfl
          · have := gy (Or.inl rfl)
            simp [this, qg]
          · have := gy (Or.inr rfl)
            simp [this, qg]
        refine Or.inl ⟨(rv_bop c x y &&& mk) :: r, qm_u φ1 29 r.length (rv_bop c x y &&& mk), ?_, by rw [hpf, hj, h77]; rfl, h1, ⟨by simp [qm_u], ?_⟩, by simp [l2], ?_, ?_⟩
        · unfold rv_1
          rw [if_neg nc.1, if_neg nc.2.1, if_neg nc.2.2.1, if_neg nc.2.2.2]
          simp only [qd, if_false]
        · refine hs.2.2.cg (fun j hj => ?_)
          have : j ≠ r.length := by omega
          have e2 : φ1 29 j = φ 29 j := by rw [e1]; rfl
          rw [← e2]
          simp [qm_u, this]
        · intro a j y1 y2
          rw [← f1 a j y1 y2]
          unfold qm_u
          repeat' split
          all_goals first | rfl | omega
        · show φ1 26 9 = _
          rw [e1]; rfl
/-- a row of an expression's code, in the reference -/
def rr_one (F : Nat) (ψ : qm_F) (c v : Int32) : Option qm_F :=
  if ¬ c = 0 then (if ¬ c = 1 then mo_signs F ψ c else qg (qm_in v 15) <| mo_push F ψ (ψ 17 v.toNatClampNeg)) else mo_push F ψ v
theorem rr_1 (hm : (1 <<< ((ψ 2 0) &&& 31)) - 1 = mk) (hcm : ye_cm c v o a) (h38 : ψ 0 38 = -1) (h5 : ψ 0 36 = Int32.ofNat st.length) (hl : st.length ≤ 64) (hs : rv_s (ψ 18) st) (hh : ye_h1 c st.length = some h') :
    (∃ st' ψ', rv_1 mk (ψ 17) c v st = some st' ∧ rr_one F ψ c v = some ψ' ∧ ψ' 0 36 = Int32.ofNat st'.length ∧ rv_s (ψ' 18) st' ∧ st'.length = h' ∧ rr_f ψ ψ' ∧ ψ' 0 38 = -1) ∨ (rv_1 mk (ψ 17) c v st = none ∧ ∃ ψ', rr_one F ψ c v = some ψ' ∧ ψ' 0 38 = 3 ∧ rr_f ψ ψ') := by
  obtain ⟨k1, k2, k3⟩ := rv_h1 hh hl
  have pushed : ∀ (ψ0 : qm_F) (st0 : List Int32) (x : Int32), rr_f ψ ψ0 → ψ0 0 36 = Int32.ofNat st0.length → st0.length < 64 → rv_s (ψ0 18) st0 → ∃ ψ', mo_push F ψ0 x = some ψ' ∧ ψ' 0 36 = Int32.ofNat ((x &&& mk) :: st0).length ∧ rv_s (ψ' 18) ((x &&& mk) :: st0) ∧ rr_f ψ ψ' ∧ ψ' 0 38 = ψ0 0 38 := by
    intro ψ0 st0 x f0 e5 el es
    have em : (1 <<< ((ψ0 2 0) &&& 31)) - 1 = mk := by rw [f0 2 0 (by omega) (by omega)]; exact hm
    refine ⟨_, rr_push e5 el x, rfl, ⟨?_, es.cg (fun j hj => ?_)⟩, ?_, rfl⟩
    · rw [em]; simp [qm_u]
    · have : j ≠ st0.length := by omega
      simp [qm_u, this]
    · intro a j y1 y2
      rw [← f0 a j y1 y2]
      unfold qm_u
      repeat' split
      all_goals first | rfl | omega
  have poppedF : ∀ l : Nat, rr_f ψ (qm_u ψ 0 36 (Int32.ofNat l)) := fun l a j y1 y2 => by
    unfold qm_u
    repeat' split
    all_goals first | rfl | omega
  rcases hcm with ⟨c0, o1, av⟩ | ⟨c1, o2, av, kk, hk, hv⟩ | ⟨c2, o4⟩ | ⟨c3, o5⟩ | ⟨oc, hb⟩
  · obtain ⟨l1, l2⟩ := k1 (Or.inl c0)
    obtain ⟨ψ', e, p1, p2, p3, p4⟩ := pushed ψ st v (fun _ _ _ _ => rfl) h5 l1 hs
    refine Or.inl ⟨(v &&& mk) :: st, ψ', by unfold rv_1; rw [if_pos c0], ?_, p1, p2, by simp [l2], p3, p4.trans h38⟩
    unfold rr_one
    rw [if_neg (by simp [c0]), e]
  · obtain ⟨l1, l2⟩ := k1 (Or.inr c1)
    obtain ⟨ψ', e, p1, p2, p3, p4⟩ := pushed ψ st (ψ 17 kk) (fun _ _ _ _ => rfl) h5 l1 hs
    refine Or.inl ⟨(ψ 17 kk &&& mk) :: st, ψ', by unfold rv_1; rw [if_neg (by rw [c1]; decide), if_pos c1, hv, ya_nn (by omega)], ?_, p1, p2, by simp [l2], p3, p4.trans h38⟩
    unfold rr_one
    rw [if_pos (by rw [c1]; decide), if_neg (by simp [c1]), hv, ya_in (by omega) (by omega), ya_nn (by omega), e]
    rfl
  · obtain ⟨l1, l2⟩ := k2 (Or.inl c2)
    cases st with
    | nil => simp at l1
    | cons x r =>
      have e1 := rr_pop (F := F) h5 hl hs
      have hl' : r.length + 1 ≤ 64 := hl
      obtain ⟨ψ', e, p1, p2, p3, p4⟩ := pushed (qm_u ψ 0 36 (Int32.ofNat r.length)) r (-x) (poppedF _) rfl (by omega) hs.2
      refine Or.inl ⟨(-x &&& mk) :: r, ψ', by unfold rv_1; rw [if_neg (by rw [c2]; decide), if_neg (by rw [c2]; decide), if_pos c2], ?_, p1, p2, by simp [l2], p3, p4.trans h38⟩
      unfold rr_one mo_signs mo_signs_L10 mo_signs_L29
      rw [if_pos (by rw [c2]; decide), if_pos (by rw [c2]; decide), if_pos c2, e1]
      simp only [yb2]
      rw [if_neg (by simp [c2]), e]
      rfl
  · obtain ⟨l1, l2⟩ := k2 (Or.inr c3)
    cases st with
    | nil => simp at l1
    | cons x r =>
      have e1 := rr_pop (F := F) h5 hl hs
      have hl' : r.length + 1 ≤ 64 := hl
      obtain ⟨ψ', e, p1, p2, p3, p4⟩ := pushed (qm_u ψ 0 36 (Int32.ofNat r.length)) r (x ^^^ (-1)) (poppedF _) rfl (by omega) hs.2
      refine Or.inl ⟨((x ^^^ (-1)) &&& mk) :: r, ψ', by unfold rv_1; rw [if_neg (by rw [c3]; decide), if_neg (by rw [c3]; decide), if_neg (by rw [c3]; decide), if_pos c3], ?_, p1, p2, by simp [l2], p3, p4.trans h38⟩
      unfold rr_one mo_signs mo_signs_L10 mo_signs_L29
      rw [if_pos (by rw [c3]; decide), if_pos (by rw [c3]; decide), if_neg (by rw [c3]; decide), if_neg (by simp [c3]), e1]
      simp only [yb2]
      rw [if_pos (by rw [c3]; decide), e]
      rfl
  · have hb' := hb
    unfold ye_bin at hb'
    have nc : ¬ c = 0 ∧ ¬ c = 1 ∧ ¬ c = 2 ∧ ¬ c = 3 := by rcases hb' with rfl | rfl | rfl | rfl | rfl | rfl | rfl | rfl | rfl | rfl <;> decide
    obtain ⟨l1, l2⟩ := k3 (by simp [nc]) (by simp [nc])
    match st, l1, l2, h5, hl, hs with
    | [], l1, _, _, _, _ => simp at l1
    | [_], l1, _, _, _, _ => simp at l1
    | y :: x :: r, l1, l2, h5, hl, hs =>
      have hl' : r.length + 2 ≤ 64 := hl
      have e1 := rr_pop (F := F) h5 hl hs
      have e2 := rr_pop (F := F) (ψ := qm_u ψ 0 36 (Int32.ofNat (x :: r).length)) (x := x) (r := r) rfl (by show r.length + 1 ≤ 64; omega) hs.2
      obtain ⟨ψ2, d2⟩ : ∃ ψ2, ψ2 = qm_u (qm_u ψ 0 36 (Int32.ofNat (x :: r).length)) 0 36 (Int32.ofNat r.length) := ⟨_, rfl⟩
      rw [← d2] at e2
      have f2 : rr_f ψ ψ2 := by
        intro a j y1 y2
        rw [d2]
        unfold qm_u
        repeat' split
        all_goals first | rfl | omega
      have g36 : ψ2 0 36 = Int32.ofNat r.length := by rw [d2]; rfl
      have g38 : ψ2 0 38 = -1 := by rw [d2]; exact h38
      have gs : rv_s (ψ2 18) r := by rw [d2]; exact hs.2.2
      have hone : rr_one F ψ c v = if (c = 47 ∨ c = 37) ∧ y = 0 then mo_signs_L72 F (qm_u ψ2 0 38 3) else mo_signs_L78 F ψ2 c y x := by
        unfold rr_one mo_signs mo_signs_L55
        rw [if_pos nc.1, if_pos nc.2.1, if_neg nc.2.2.1, if_pos nc.2.2.2, e1]
        simp only [yb2]
        rw [e2]
        simp only [yb2]
        rw [g38]
        by_cases q47 : c = 47
        · rw [if_pos q47]
          by_cases qy : y = 0
          · rw [if_neg (by simp [qy]), if_neg (by simp), if_pos ⟨Or.inl q47, qy⟩]
          · rw [if_pos qy, if_neg (fun z => qy z.2)]
        · rw [if_neg q47]
          by_cases q37 : c = 37
          · rw [if_neg (by simp [q37])]
            by_cases qy : y = 0
            · rw [if_neg (by simp [qy]), if_neg (by simp), if_pos ⟨Or.inr q37, qy⟩]
            · rw [if_pos qy, if_neg (fun z => qy z.2)]
          · rw [if_pos q37, if_neg (fun z => by rcases z.1 with z | z; exact q47 z; exact q37 z)]
      by_cases qd : (c = 47 ∨ c = 37) ∧ y = 0
      · rw [if_pos qd] at hone
        have f3 : rr_f ψ (qm_u ψ2 0 38 3) := by
          intro a j y1 y2
          rw [← f2 a j y1 y2]
          unfold qm_u
          repeat' split
          all_goals first | rfl | omega
        obtain ⟨ψ', e, p1, p2, p3, p4⟩ := pushed (qm_u ψ2 0 38 3) r 0 f3 g36 (by omega) gs
        refine Or.inr ⟨?_, ψ', ?_, p4, p3⟩
        · unfold rv_1
          rw [if_neg nc.1, if_neg nc.2.1, if_neg nc.2.2.1, if_neg nc.2.2.2]
          simp only [qd, and_self, if_true]
        · rw [hone]
          unfold mo_signs_L72
          rw [e]
          rfl
      · rw [if_neg qd] at hone
        obtain ⟨ψ', e, p1, p2, p3, p4⟩ := pushed ψ2 r (rv_bop c x y) f2 g36 (by omega) gs
        refine Or.inl ⟨(rv_bop c x y &&& mk) :: r, ψ', ?_, ?_, p1, p2, by simp [l2], p3, p4.trans g38⟩
        · unfold rv_1
          rw [if_neg nc.1, if_neg nc.2.1, if_neg nc.2.2.1, if_neg nc.2.2.2]
          simp only [qd, if_false]
        · rw [hone]
          unfold mo_signs_L78 mo_signs_L195 mo_signs_L210
          have gy : c = 47 ∨ c = 37 → ¬ y = 0 := fun q z => qd ⟨q, z⟩
          unfold rv_bop at e
          rcases hb' with rfl | rfl | rfl | rfl | rfl | rfl | rfl | rfl | rfl | rfl
          · simp [yb1] at e ⊢; rw [e]; rfl
          · simp [yb1] at e ⊢; rw [e]; rfl
          · simp [yb1] at e ⊢; rw [e]; rfl
          · by_cases z : x = y
            · simp [z] at e ⊢; rw [e]; rfl
            · simp [z] at e ⊢; rw [e]; rfl
          · by_cases z : y ≤ x
            · simp [z] at e ⊢; rw [e]; rfl
            · simp [z] at e ⊢; rw [e]; rfl
          · simp at e ⊢; rw [e]; rfl
          · simp at e ⊢; rw [e]; rfl
          · simp at e ⊢; rw [e]; rfl
          · have := gy (Or.inl rfl)
            simp at e
            simp [this, qg]; rw [e]; rfl
          · have := gy (Or.inr rfl)
            simp at e
            simp [this, qg]; rw [e]; rfl
end R0
