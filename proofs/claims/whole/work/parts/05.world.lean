/-! classes by number; the world of the small machine's heap; what an entry's links must be -/
def qm_cR (ci : Nat) : String := (vwCl.getD ci (RX0, TX0, 10)).1
def qm_cT (ci : Nat) : u_T := (vwCl.getD ci (RX0, TX0, 10)).2.1
def qm_cN (ci : Nat) : Nat := (vwCl.getD ci (RX0, TX0, 10)).2.2
def qm_cy (ci : Nat) : Nat → FieldType := ([tyX0, tyX1, tyX2, tyX3, tyX4, tyX5, tyX6, tyX7, tyX8, tyX9] : List (Nat → FieldType)).getD ci tyX0
theorem qm_vw {ci : Nat} (h : ci < 10) : vwCl[ci]? = some (qm_cR ci, qm_cT ci, qm_cN ci) := by
  match ci, h with
  | 0, _ => rfl
  | 1, _ => rfl
  | 2, _ => rfl
  | 3, _ => rfl
  | 4, _ => rfl
  | 5, _ => rfl
  | 6, _ => rfl
  | 7, _ => rfl
  | 8, _ => rfl
  | 9, _ => rfl
theorem qm_nm {ci : Nat} (h : ci < 10) : ∀ a, a < qm_cN ci → ∀ b, b < qm_cN ci → a ≠ b → (qm_cT ci a).2.1 ≠ (qm_cT ci b).2.1 := by
  match ci, h with
  | 0, _ => exact nmX0
  | 1, _ => exact nmX1
  | 2, _ => exact nmX2
  | 3, _ => exact nmX3
  | 4, _ => exact nmX4
  | 5, _ => exact nmX5
  | 6, _ => exact nmX6
  | 7, _ => exact nmX7
  | 8, _ => exact nmX8
  | 9, _ => exact nmX9
theorem qm_ty {ci : Nat} (h : ci < 10) : ∀ k, k < qm_cN ci → parseFieldDescriptor (qm_cT ci k).2.2.1 = some (qm_cy ci k) := by
  match ci, h with
  | 0, _ => exact tyX0_ok
  | 1, _ => exact tyX1_ok
  | 2, _ => exact tyX2_ok
  | 3, _ => exact tyX3_ok
  | 4, _ => exact tyX4_ok
  | 5, _ => exact tyX5_ok
  | 6, _ => exact tyX6_ok
  | 7, _ => exact tyX7_ok
  | 8, _ => exact tyX8_ok
  | 9, _ => exact tyX9_ok
/-- owners by number -/
def qm_oR (o : Nat) : String := if o < 10 then qm_cR o else if o = 20 then "java/lang/Math" else if o = 21 then "java/util/Arrays" else if o = 22 then "java/lang/Long" else "java/lang/String"
def qm_isr (ty : FieldType) : Bool := match ty with
  | .object _ => true
  | .array _ => true
  | _ => false
def qm_cv (ad : Nat → Nat) (v : Value) : Value := match v with
  | .ref a => .ref (ad a)
  | v => v
/-- a field's value -/
def qm_fv (ad : Nat → Nat) (h : qm_H) (a ci f : Nat) : Value := if qm_isr (qm_cy ci f) = true then (match h.2.2 a f with
  | none => .null
  | some b => .ref (ad b)) else .int (h.2.1 a f)
def qm_E (G : ClassId × ClassId × ClassId) (ad : Nat → Nat) (h : qm_H) (a : Nat) (kd : Nat × Nat) : va_E := match kd.1 with
  | 0 => .inr (kd.2, (List.range (qm_cN kd.2)).map (qm_fv ad h a kd.2))
  | 1 => .inl (G.1, kd.2, .inl (h.2.1 a))
  | 2 => .inl (G.2.1, kd.2, .inl (h.2.1 a))
  | _ => .inl (G.2.2, kd.2, .inl (h.2.1 a))
def qm_W (G : ClassId × ClassId × ClassId) (ad : Nat → Nat) (h : qm_H) : va_W := h.1.mapIdx (fun a kd => (ad a, qm_E G ad h a kd))
def qm_tys (G : ClassId × ClassId × ClassId) : List (ClassId × FieldType) := [(G.1, .int), (G.2.1, .byte), (G.2.2, .boolean)]
def qm_s1 (kd : Nat × Nat) : Nat := if kd.1 = 0 then qm_cN kd.2 else kd.2
def qm_sl (l : List (Nat × Nat)) : Nat := (l.map qm_s1).sum
theorem qm_W_at {G : ClassId × ClassId × ClassId} {ad : Nat → Nat} {h : qm_H} {a : Nat} {kd : Nat × Nat} (hk : h.1[a]? = some kd) : (qm_W G ad h)[a]? = some (ad a, qm_E G ad h a kd) := by
  simp [qm_W, List.getElem?_mapIdx, hk]
/-- one cell changed -/
theorem qm_W_set {G : ClassId × ClassId × ClassId} {ad : Nat → Nat} {h h' : qm_H} {a : Nat} {kd : Nat × Nat} (hk : h.1[a]? = some kd) (h1 : h'.1 = h.1) (h2 : ∀ b, b ≠ a → h'.2.1 b = h.2.1 b ∧ h'.2.2 b = h.2.2 b) :
    (qm_W G ad h).set a (ad a, qm_E G ad h' a kd) = qm_W G ad h' := by
  apply List.ext_getElem?
  intro i
  have hl : a < h.1.length := (List.getElem?_eq_some_iff.mp hk).1
  by_cases hi : i = a
  · subst hi
    rw [qm_W_at (h := h') (by rw [h1]; exact hk), List.getElem?_set_self (by simpa [qm_W] using hl)]
  · rw [List.getElem?_set_ne (Ne.symm hi)]
    unfold qm_W
    rw [List.getElem?_mapIdx, List.getElem?_mapIdx, h1]
    cases hx : h.1[i]? with
    | none => rfl
    | some kx =>
      obtain ⟨e1, e2⟩ := h2 i hi
      have : qm_E G ad h' i kx = qm_E G ad h i kx := by
        unfold qm_E
        rw [e1]
        split
        · refine congrArg (fun z => Sum.inr (kx.2, z)) ?_
          apply List.map_congr_left
          intro f _
          unfold qm_fv
          rw [e1, e2]
        · rfl
        · rfl
        · rfl
      simp [this]
theorem qm_W_len {G : ClassId × ClassId × ClassId} {ad : Nat → Nat} {h : qm_H} : (qm_W G ad h).length = h.1.length := by simp [qm_W]
/-- one cell more -/
theorem qm_W_add {G : ClassId × ClassId × ClassId} {ad : Nat → Nat} {h h' : qm_H} {kd : Nat × Nat} (h1 : h'.1 = h.1 ++ [kd]) (h2 : ∀ b, b ≠ h.1.length → h'.2.1 b = h.2.1 b ∧ h'.2.2 b = h.2.2 b) :
    qm_W G ad h' = qm_W G ad h ++ [(ad h.1.length, qm_E G ad h' h.1.length kd)] := by
  apply List.ext_getElem?
  intro i
  by_cases hi : i < h.1.length
  · rw [List.getElem?_append_left (by rw [qm_W_len]; exact hi)]
    unfold qm_W
    rw [List.getElem?_mapIdx, List.getElem?_mapIdx, h1, List.getElem?_append_left hi]
    cases hx : h.1[i]? with
    | none => rfl
    | some kx =>
      obtain ⟨e1, e2⟩ := h2 i (by omega)
      have : qm_E G ad h' i kx = qm_E G ad h i kx := by
        unfold qm_E
        rw [e1]
        split
        · refine congrArg (fun z => Sum.inr (kx.2, z)) ?_
          apply List.map_congr_left
          intro f _
          unfold qm_fv
          rw [e1, e2]
        · rfl
        · rfl
        · rfl
      simp [this]
  · rw [List.getElem?_append_right (by rw [qm_W_len]; omega), qm_W_len]
    by_cases he : i = h.1.length
    · subst he
      rw [qm_W_at (h := h') (kd := kd) (by rw [h1]; simp)]
      simp
    · have hn : h'.1[i]? = none := by
        rw [h1]
        simp
        omega
      unfold qm_W
      rw [List.getElem?_mapIdx, hn]
      simp
      omega
