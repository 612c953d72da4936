/-! rows for single instructions of the small machine, and the words of the plain functions -/
abbrev qm_F : Type := Nat → Nat → Int32
def qb1 {α β : Type} (o : Option α) (f : α → Option β) : Option β := match o with
  | none => none
  | some a => f a
def qb2 {α β γ : Type} (o : Option (α × β)) (f : α → β → Option γ) : Option γ := match o with
  | none => none
  | some (a, b) => f a b
def qg {α : Type} (c : Bool) (t : Option α) : Option α := match c with
  | true => t
  | false => none
theorem qb1_s {α β : Type} {o : Option α} {f : α → Option β} {r : β} (h : qb1 o f = some r) : ∃ a, o = some a ∧ f a = some r := by
  cases o with
  | none => cases h
  | some a => exact ⟨a, rfl, h⟩
theorem qb2_s {α β γ : Type} {o : Option (α × β)} {f : α → β → Option γ} {r : γ} (h : qb2 o f = some r) : ∃ a b, o = some (a, b) ∧ f a b = some r := by
  cases o with
  | none => cases h
  | some a => exact ⟨a.1, a.2, rfl, h⟩
theorem qg_s {α : Type} {c : Bool} {t : Option α} {r : α} (h : qg c t = some r) : c = true ∧ t = some r := by
  cases c with
  | false => cases h
  | true => exact ⟨rfl, h⟩
theorem qb1_i {α β : Type} {o : Option α} {f : α → Option β} {a : α} (h : o = some a) : qb1 o f = f a := by rw [h]; rfl
theorem qb2_i {α β γ : Type} {o : Option (α × β)} {f : α → β → Option γ} {a : α} {b : β} (h : o = some (a, b)) : qb2 o f = f a b := by rw [h]; rfl
theorem qg_i {α : Type} {c : Bool} {t : Option α} (h : c = true) : qg c t = t := by rw [h]; rfl
section QW
variable {d k nL rt pc : Nat} {cd : List (Option qm_e)} {ls st : List Value} {h : qm_H} {r : Option Value × qm_H}
theorem qr_ia {a n : Nat} {i v : Int32} (hC : qm_C k nL rt cd) (hc : cd[pc]? = some (some (.iaload, 1, 0, 0, 0))) (hk : h.1[a]? = some (1, n)) (hg : qm_in i n = true) (hv : h.2.1 a i.toNatClampNeg = v) (kk : qm_Rn d k (pc + 1) ls (.int v :: st) h r) : qm_Rn d k pc ls (.int i :: .ref a :: st) h r := by
  refine qr_x hC hc ?_ kk
  simp only [qm_x, hk, hg, if_true, qm_nx, hv]
theorem qr_ba {a n : Nat} {i v : Int32} (hC : qm_C k nL rt cd) (hc : cd[pc]? = some (some (.baload, 1, 0, 0, 0))) (hk : h.1[a]? = some (2, n)) (hg : qm_in i n = true) (hv : h.2.1 a i.toNatClampNeg = v) (kk : qm_Rn d k (pc + 1) ls (.int v :: st) h r) : qm_Rn d k pc ls (.int i :: .ref a :: st) h r := by
  refine qr_x hC hc ?_ kk
  simp only [qm_x, hk, hg, if_true, qm_nx, hv]
theorem qr_za {a n : Nat} {i v : Int32} (hC : qm_C k nL rt cd) (hc : cd[pc]? = some (some (.baload, 1, 0, 0, 0))) (hk : h.1[a]? = some (3, n)) (hg : qm_in i n = true) (hv : h.2.1 a i.toNatClampNeg = v) (kk : qm_Rn d k (pc + 1) ls (.int v :: st) h r) : qm_Rn d k pc ls (.int i :: .ref a :: st) h r := by
  refine qr_x hC hc ?_ kk
  simp only [qm_x, hk, hg, if_true, qm_nx, hv]
theorem qr_is {a n : Nat} {i x : Int32} {h' : qm_H} (hC : qm_C k nL rt cd) (hc : cd[pc]? = some (some (.iastore, 1, 0, 0, 0))) (hk : h.1[a]? = some (1, n)) (hg : qm_in i n = true) (hv : (h.1, qm_u h.2.1 a i.toNatClampNeg x, h.2.2) = h') (kk : qm_Rn d k (pc + 1) ls st h' r) : qm_Rn d k pc ls (.int x :: .int i :: .ref a :: st) h r := by
  refine qr_x hC hc ?_ kk
  simp only [qm_x, hk, hg, if_true, qm_nx, hv]
theorem qr_bs {a n : Nat} {i x : Int32} {h' : qm_H} (hC : qm_C k nL rt cd) (hc : cd[pc]? = some (some (.bastore, 1, 0, 0, 0))) (hk : h.1[a]? = some (2, n)) (hg : qm_in i n = true) (hv : (h.1, qm_u h.2.1 a i.toNatClampNeg (qm_by x), h.2.2) = h') (kk : qm_Rn d k (pc + 1) ls st h' r) : qm_Rn d k pc ls (.int x :: .int i :: .ref a :: st) h r := by
  refine qr_x hC hc ?_ kk
  simp only [qm_x, hk, hg, if_true, qm_nx, hv]
theorem qr_zs {a n : Nat} {i x : Int32} {h' : qm_H} (hC : qm_C k nL rt cd) (hc : cd[pc]? = some (some (.bastore, 1, 0, 0, 0))) (hk : h.1[a]? = some (3, n)) (hg : qm_in i n = true) (hz : qm_bz x = true) (hv : (h.1, qm_u h.2.1 a i.toNatClampNeg x, h.2.2) = h') (kk : qm_Rn d k (pc + 1) ls st h' r) : qm_Rn d k pc ls (.int x :: .int i :: .ref a :: st) h r := by
  refine qr_x hC hc ?_ kk
  simp only [qm_x, hk, hg, hz, and_self, if_true, qm_nx, hv]
theorem qr_dv {x y : Int32} (hC : qm_C k nL rt cd) (hc : cd[pc]? = some (some (.idiv, 1, 0, 0, 0))) (hg : (!decide (y = 0)) = true) (kk : qm_Rn d k (pc + 1) ls (.int (x / y) :: st) h r) : qm_Rn d k pc ls (.int y :: .int x :: st) h r := by
  have hne : ¬ y = 0 := by simpa using hg
  refine qr_x hC hc ?_ kk
  simp only [qm_x, if_neg hne, qm_nx]
theorem qr_rm {x y : Int32} (hC : qm_C k nL rt cd) (hc : cd[pc]? = some (some (.irem, 1, 0, 0, 0))) (hg : (!decide (y = 0)) = true) (kk : qm_Rn d k (pc + 1) ls (.int (x - x / y * y) :: st) h r) : qm_Rn d k pc ls (.int y :: .int x :: st) h r := by
  have hne : ¬ y = 0 := by simpa using hg
  refine qr_x hC hc ?_ kk
  simp only [qm_x, if_neg hne, qm_nx]
theorem qr_rz {x : Int32} (hC : qm_C k nL 2 cd) (hc : cd[pc]? = some (some (.ireturn, 1, 0, 0, 0))) (hz : qm_bz x = true) : qm_Rn d k pc ls [.int x] h (some (.int x), h) := by
  refine qr_r hC hc ?_
  show (if _ then _ else _) = _
  rw [if_pos (Or.inr ⟨rfl, hz⟩)]
theorem qr_c1 {c : Jvm.ClassFile.Cond} {x : Int32} {off : Int} {tgt : Nat} (hC : qm_C k nL rt cd) (hc : cd[pc]? = some (some (.ifCond c off, 3, 0, 0, 0))) (h0 : 0 ≤ (pc : Int) + off) (hT : qm_tgt pc off = tgt) (kt : qm_c1 c x = true → qm_Rn d k tgt ls st h r) (kf : ¬ qm_c1 c x = true → qm_Rn d k (pc + 3) ls st h r) : qm_Rn d k pc ls (.int x :: st) h r := by
  by_cases hq : qm_c1 c x = true
  · refine qr_x hC hc ?_ (kt hq)
    simp only [qm_x]
    rw [if_pos h0, if_pos hq, hT]; rfl
  · refine qr_x hC hc ?_ (kf hq)
    simp only [qm_x]
    rw [if_pos h0, if_neg hq]; rfl
theorem qr_c2 {c : Jvm.ClassFile.Cond} {x y : Int32} {off : Int} {tgt : Nat} (hC : qm_C k nL rt cd) (hc : cd[pc]? = some (some (.if_icmp c off, 3, 0, 0, 0))) (h0 : 0 ≤ (pc : Int) + off) (hT : qm_tgt pc off = tgt) (kt : qm_c2 c x y = true → qm_Rn d k tgt ls st h r) (kf : ¬ qm_c2 c x y = true → qm_Rn d k (pc + 3) ls st h r) : qm_Rn d k pc ls (.int y :: .int x :: st) h r := by
  by_cases hq : qm_c2 c x y = true
  · refine qr_x hC hc ?_ (kt hq)
    simp only [qm_x]
    rw [if_pos h0, if_pos hq, hT]; rfl
  · refine qr_x hC hc ?_ (kf hq)
    simp only [qm_x]
    rw [if_pos h0, if_neg hq]; rfl
theorem qr_eq1 {x : Int32} {off : Int} {tgt : Nat} (hC : qm_C k nL rt cd) (hc : cd[pc]? = some (some (.ifCond .eq off, 3, 0, 0, 0))) (h0 : 0 ≤ (pc : Int) + off) (hT : qm_tgt pc off = tgt) (kt : x = 0 → qm_Rn d k tgt ls st h r) (kf : ¬ (x = 0) → qm_Rn d k (pc + 3) ls st h r) : qm_Rn d k pc ls (.int x :: st) h r :=
  qr_c1 hC hc h0 hT (fun q => kt (by simpa [qm_c1] using q)) (fun q => kf (by simpa [qm_c1] using q))
theorem qr_eq2 {x y : Int32} {off : Int} {tgt : Nat} (hC : qm_C k nL rt cd) (hc : cd[pc]? = some (some (.if_icmp .eq off, 3, 0, 0, 0))) (h0 : 0 ≤ (pc : Int) + off) (hT : qm_tgt pc off = tgt) (kt : x = y → qm_Rn d k tgt ls st h r) (kf : ¬ (x = y) → qm_Rn d k (pc + 3) ls st h r) : qm_Rn d k pc ls (.int y :: .int x :: st) h r :=
  qr_c2 hC hc h0 hT (fun q => kt (by simpa [qm_c2] using q)) (fun q => kf (by simpa [qm_c2] using q))
theorem qr_ne1 {x : Int32} {off : Int} {tgt : Nat} (hC : qm_C k nL rt cd) (hc : cd[pc]? = some (some (.ifCond .ne off, 3, 0, 0, 0))) (h0 : 0 ≤ (pc : Int) + off) (hT : qm_tgt pc off = tgt) (kt : ¬ x = 0 → qm_Rn d k tgt ls st h r) (kf : ¬ (¬ x = 0) → qm_Rn d k (pc + 3) ls st h r) : qm_Rn d k pc ls (.int x :: st) h r :=
  qr_c1 hC hc h0 hT (fun q => kt (by simpa [qm_c1] using q)) (fun q => kf (by simpa [qm_c1] using q))
theorem qr_ne2 {x y : Int32} {off : Int} {tgt : Nat} (hC : qm_C k nL rt cd) (hc : cd[pc]? = some (some (.if_icmp .ne off, 3, 0, 0, 0))) (h0 : 0 ≤ (pc : Int) + off) (hT : qm_tgt pc off = tgt) (kt : ¬ x = y → qm_Rn d k tgt ls st h r) (kf : ¬ (¬ x = y) → qm_Rn d k (pc + 3) ls st h r) : qm_Rn d k pc ls (.int y :: .int x :: st) h r :=
  qr_c2 hC hc h0 hT (fun q => kt (by simpa [qm_c2] using q)) (fun q => kf (by simpa [qm_c2] using q))
theorem qr_lt1 {x : Int32} {off : Int} {tgt : Nat} (hC : qm_C k nL rt cd) (hc : cd[pc]? = some (some (.ifCond .lt off, 3, 0, 0, 0))) (h0 : 0 ≤ (pc : Int) + off) (hT : qm_tgt pc off = tgt) (kt : x < 0 → qm_Rn d k tgt ls st h r) (kf : ¬ (x < 0) → qm_Rn d k (pc + 3) ls st h r) : qm_Rn d k pc ls (.int x :: st) h r :=
  qr_c1 hC hc h0 hT (fun q => kt (by simpa [qm_c1] using q)) (fun q => kf (by simpa [qm_c1] using q))
theorem qr_lt2 {x y : Int32} {off : Int} {tgt : Nat} (hC : qm_C k nL rt cd) (hc : cd[pc]? = some (some (.if_icmp .lt off, 3, 0, 0, 0))) (h0 : 0 ≤ (pc : Int) + off) (hT : qm_tgt pc off = tgt) (kt : x < y → qm_Rn d k tgt ls st h r) (kf : ¬ (x < y) → qm_Rn d k (pc + 3) ls st h r) : qm_Rn d k pc ls (.int y :: .int x :: st) h r :=
  qr_c2 hC hc h0 hT (fun q => kt (by simpa [qm_c2] using q)) (fun q => kf (by simpa [qm_c2] using q))
theorem qr_ge1 {x : Int32} {off : Int} {tgt : Nat} (hC : qm_C k nL rt cd) (hc : cd[pc]? = some (some (.ifCond .ge off, 3, 0, 0, 0))) (h0 : 0 ≤ (pc : Int) + off) (hT : qm_tgt pc off = tgt) (kt : 0 ≤ x → qm_Rn d k tgt ls st h r) (kf : ¬ (0 ≤ x) → qm_Rn d k (pc + 3) ls st h r) : qm_Rn d k pc ls (.int x :: st) h r :=
  qr_c1 hC hc h0 hT (fun q => kt (by simpa [qm_c1] using q)) (fun q => kf (by simpa [qm_c1] using q))
theorem qr_ge2 {x y : Int32} {off : Int} {tgt : Nat} (hC : qm_C k nL rt cd) (hc : cd[pc]? = some (some (.if_icmp .ge off, 3, 0, 0, 0))) (h0 : 0 ≤ (pc : Int) + off) (hT : qm_tgt pc off = tgt) (kt : y ≤ x → qm_Rn d k tgt ls st h r) (kf : ¬ (y ≤ x) → qm_Rn d k (pc + 3) ls st h r) : qm_Rn d k pc ls (.int y :: .int x :: st) h r :=
  qr_c2 hC hc h0 hT (fun q => kt (by simpa [qm_c2] using q)) (fun q => kf (by simpa [qm_c2] using q))
theorem qr_gt1 {x : Int32} {off : Int} {tgt : Nat} (hC : qm_C k nL rt cd) (hc : cd[pc]? = some (some (.ifCond .gt off, 3, 0, 0, 0))) (h0 : 0 ≤ (pc : Int) + off) (hT : qm_tgt pc off = tgt) (kt : 0 < x → qm_Rn d k tgt ls st h r) (kf : ¬ (0 < x) → qm_Rn d k (pc + 3) ls st h r) : qm_Rn d k pc ls (.int x :: st) h r :=
  qr_c1 hC hc h0 hT (fun q => kt (by simpa [qm_c1] using q)) (fun q => kf (by simpa [qm_c1] using q))
theorem qr_gt2 {x y : Int32} {off : Int} {tgt : Nat} (hC : qm_C k nL rt cd) (hc : cd[pc]? = some (some (.if_icmp .gt off, 3, 0, 0, 0))) (h0 : 0 ≤ (pc : Int) + off) (hT : qm_tgt pc off = tgt) (kt : y < x → qm_Rn d k tgt ls st h r) (kf : ¬ (y < x) → qm_Rn d k (pc + 3) ls st h r) : qm_Rn d k pc ls (.int y :: .int x :: st) h r :=
  qr_c2 hC hc h0 hT (fun q => kt (by simpa [qm_c2] using q)) (fun q => kf (by simpa [qm_c2] using q))
theorem qr_le1 {x : Int32} {off : Int} {tgt : Nat} (hC : qm_C k nL rt cd) (hc : cd[pc]? = some (some (.ifCond .le off, 3, 0, 0, 0))) (h0 : 0 ≤ (pc : Int) + off) (hT : qm_tgt pc off = tgt) (kt : x ≤ 0 → qm_Rn d k tgt ls st h r) (kf : ¬ (x ≤ 0) → qm_Rn d k (pc + 3) ls st h r) : qm_Rn d k pc ls (.int x :: st) h r :=
  qr_c1 hC hc h0 hT (fun q => kt (by simpa [qm_c1] using q)) (fun q => kf (by simpa [qm_c1] using q))
theorem qr_le2 {x y : Int32} {off : Int} {tgt : Nat} (hC : qm_C k nL rt cd) (hc : cd[pc]? = some (some (.if_icmp .le off, 3, 0, 0, 0))) (h0 : 0 ≤ (pc : Int) + off) (hT : qm_tgt pc off = tgt) (kt : x ≤ y → qm_Rn d k tgt ls st h r) (kf : ¬ (x ≤ y) → qm_Rn d k (pc + 3) ls st h r) : qm_Rn d k pc ls (.int y :: .int x :: st) h r :=
  qr_c2 hC hc h0 hT (fun q => kt (by simpa [qm_c2] using q)) (fun q => kf (by simpa [qm_c2] using q))
end QW
def qlet {α β : Type} (x : α) (f : α → Option β) : Option β := f x
theorem qlet_s {α β : Type} {x : α} {f : α → Option β} {r : β} (h : qlet x f = some r) : ∃ y, x = y ∧ f y = some r := ⟨x, rfl, h⟩
theorem qp_ch {a : Nat} {i : Int32} {h : qm_H} (hg : qm_in i (qm_str a).length = true) : qm_p 285 [.ref a, .int i] h = some (some (.int (Int32.ofNat ((qm_str a).getD i.toNatClampNeg 0))), h) := by
  show (if qm_in i (qm_str a).length = true then _ else _) = _
  rw [if_pos hg]
section QX
variable {d k nL rt pc : Nat} {cd : List (Option qm_e)} {ls st : List Value} {h : qm_H} {r : Option Value × qm_H}
theorem qr_sw {x v : Int32} {en : qm_e} {tgt : Nat} (hC : qm_C k nL rt cd) (hc : cd[pc]? = some (some en)) (hX : x = v) (hx : qm_x rt en pc ls (.int v :: st) h = some (.inl (tgt, ls, st, h))) (kk : qm_Rn d k tgt ls st h r) : qm_Rn d k pc ls (.int x :: st) h r := by
  subst hX
  exact qr_x hC hc hx kk
theorem qr_tD {x : Int32} {dflt lo hi : Int} {offs : Array Int} {len tgt : Nat} (hC : qm_C k nL rt cd) (hc : cd[pc]? = some (some (.tableswitch dflt lo hi offs, len, 0, 0, 0))) (ho : x.toInt < lo ∨ hi < x.toInt) (h0 : 0 ≤ (pc : Int) + dflt) (hT : qm_tgt pc dflt = tgt) (kk : qm_Rn d k tgt ls st h r) : qm_Rn d k pc ls (.int x :: st) h r := by
  refine qr_x hC hc ?_ kk
  simp only [qm_x, qm_go]
  rw [if_pos ho, if_pos h0, hT]; rfl
theorem qr_lD {x : Int32} {dflt off : Int} {ps : Array (Int × Int)} {len tgt : Nat} (hC : qm_C k nL rt cd) (hc : cd[pc]? = some (some (.lookupswitch dflt ps, len, 0, 0, 0))) (hp : (ps.toList.zip (ps.toList.drop 1)).all (fun (a, next) => a.1 < next.1) = true) (ho : Op.lookupswitch.offset ps.toList dflt x.toInt = off) (h0 : 0 ≤ (pc : Int) + off) (hT : qm_tgt pc off = tgt) (kk : qm_Rn d k tgt ls st h r) : qm_Rn d k pc ls (.int x :: st) h r := by
  refine qr_x hC hc ?_ kk
  simp only [qm_x, qm_go]
  rw [if_pos hp, ho, if_pos h0, hT]; rfl
theorem qn_i {x v : Int32} (h : ¬ x = v) : x.toInt ≠ v.toInt := fun z => h (Int32.toInt_inj.mp z)
end QX
