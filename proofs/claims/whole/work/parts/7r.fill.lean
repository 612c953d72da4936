/-! SEMANTICS: runs, from their beginning to their end -/
theorem ya_shr {g s : Nat} (hg : g < 2147483648) (hs : s < 32) : Int32.ofNat g >>> (Int32.ofNat s &&& 31) = Int32.ofNat (g / 2 ^ s) := by
  have hm : (Int32.ofNat s &&& 31) = Int32.ofNat s := by
    have : ∀ s, s < 32 → (Int32.ofNat s &&& 31) = Int32.ofNat s := by decide
    exact this s hs
  have hm2 : (Int32.ofNat s).toBitVec.smod 32 = BitVec.ofNat 32 s := by
    have : ∀ s, s < 32 → (Int32.ofNat s).toBitVec.smod 32 = BitVec.ofNat 32 s := by decide
    exact this s hs
  apply Int32.toBitVec_inj.mp
  rw [hm, Int32.toBitVec_shiftRight, hm2]
  show (BitVec.ofNat 32 g).sshiftRight (BitVec.ofNat 32 s).toNat = BitVec.ofNat 32 (g / 2 ^ s)
  rw [BitVec.toNat_ofNat, Nat.mod_eq_of_lt (show s < 2 ^ 32 by omega)]
  have hmsb : (BitVec.ofNat 32 g).msb = false := by
    rw [BitVec.msb_eq_false_iff_two_mul_lt, BitVec.toNat_ofNat]
    omega
  rw [BitVec.sshiftRight_eq_of_msb_false hmsb]
  apply BitVec.eq_of_toNat_eq
  rw [BitVec.toNat_ushiftRight, BitVec.toNat_ofNat, BitVec.toNat_ofNat, Nat.shiftRight_eq_div_pow, Nat.mod_eq_of_lt (show g < 2 ^ 32 by omega)]
  have : g / 2 ^ s ≤ g := Nat.div_le_self _ _
  rw [Nat.mod_eq_of_lt (by omega)]
/-- the bits behind the k-th -/
def rp_sh (B : List Nat) (k : Nat) : Nat := (B.drop (k + 1)).sum
def rp_v (B : List Nat) (x k : Nat) : Int32 := Int32.ofNat (x / 2 ^ rp_sh B k) &&& (((1 : Int32) <<< (Int32.ofNat (B.getD k 0) &&& 31)) - 1)
theorem rp_drop (B : List Nat) {k : Nat} (hk : k < B.length) : (B.drop k).sum = B.getD k 0 + (B.drop (k + 1)).sum := by
  rw [List.drop_eq_getElem_cons hk, List.sum_cons]
  congr 1
  rw [List.getD_eq_getElem?_getD, List.getElem?_eq_getElem hk]
  rfl
theorem rp_sumle (B : List Nat) (k : Nat) : (B.drop k).sum ≤ B.sum := by
  have : B.sum = (B.take k).sum + (B.drop k).sum := by rw [← List.sum_append, List.take_append_drop]
  omega
section R4
variable {F nR nN nT gg : Nat} {φ ψ : qm_F}
/-- the reference's part of a number -/
theorem rp_m {B : List Nat} {o : Nat} (hB : ∀ k x, B[k]? = some x → ψ 4 (o + k) = Int32.ofNat x) (ho : o + B.length ≤ 15) (hs : B.sum ≤ 7) {x k : Nat} (hx : x < 2147483648) (hk : k < B.length) : ∀ (m i : Nat), B.length + 1 ≤ m + i → k + 1 ≤ i → i ≤ B.length → mo_partOf_L9 F m ψ (Int32.ofNat x) (Int32.ofNat o) (Int32.ofNat B.length) (Int32.ofNat k) (Int32.ofNat (rp_sh B k - (B.drop i).sum)) (Int32.ofNat i) = some (rp_v B x k) := by
  have hd : ∀ i, i < B.length → ψ 4 (o + i) = Int32.ofNat (B.getD i 0) := by
    intro i hi
    rw [hB i B[i] (List.getElem?_eq_getElem hi), List.getD_eq_getElem?_getD, List.getElem?_eq_getElem hi]
    rfl
  intro m
  induction m with
  | zero => intro i h1 h2 h3; omega
  | succ m ih =>
    intro i h1 h2 h3
    unfold mo_partOf_L9
    rw [yi_le (by omega) (by omega)]
    by_cases q : B.length ≤ i
    · have e0 : (B.drop i).sum = 0 := by rw [List.drop_eq_nil_of_le q]; rfl
      have hsh : rp_sh B k ≤ 7 := Nat.le_trans (rp_sumle B (k + 1)) hs
      rw [if_pos q, ya_add, ya_in (by omega) (by omega), ya_nn (by omega), e0, Nat.sub_zero, ya_shr hx (by omega), hd k hk]
      rfl
    · rw [if_neg q, ya_add, ya_in (by omega) (by omega), ya_nn (by omega), hd i (by omega), ya_add, ya_add1]
      have e1 := rp_drop B (k := i) (by omega)
      have hle : (B.drop i).sum ≤ rp_sh B k := by
        unfold rp_sh
        have : (B.drop i) = (B.drop (k + 1)).drop (i - (k + 1)) := by rw [List.drop_drop]; congr 1; omega
        rw [this]
        exact rp_sumle _ _
      rw [show rp_sh B k - (B.drop i).sum + B.getD i 0 = rp_sh B k - (B.drop (i + 1)).sum by omega]
      exact ih (i + 1) (by omega) (by omega) (by omega)
theorem rp_part (hF : 4000 ≤ F) {B : List Nat} {o : Nat} (hB : ∀ k x, B[k]? = some x → ψ 4 (o + k) = Int32.ofNat x) (ho : o + B.length ≤ 15) (hs : B.sum ≤ 7) {x k : Nat} (hx : x < 2147483648) (hk : k < B.length) : mo_partOf F ψ (Int32.ofNat x) (Int32.ofNat o) (Int32.ofNat B.length) (Int32.ofNat k) = some (rp_v B x k) := by
  unfold mo_partOf
  rw [ya_add1]
  have := rp_m (F := F) hB ho hs hx hk F (k + 1) (by omega) (Nat.le_refl _) (by omega)
  rw [show rp_sh B k - (B.drop (k + 1)).sum = 0 by unfold rp_sh; omega] at this
  exact this
/-- the component's slots are filled -/
def rp_fx (φ φ' : qm_F) : Prop := ∀ a j, a ≠ 27 → φ' a j = φ a j
theorem rp_zero (hF : 4000 ≤ F) : ∃ φ', ja_fillSlots F nR nN nT gg φ 0 = some φ' ∧ rp_fx φ φ' ∧ ∀ j, j < 15 → φ' 27 j = 0 := by
  have : ∀ (m i : Nat) (φ : qm_F), 16 ≤ m + i → i ≤ 15 → (∀ j, j < i → φ 27 j = 0) → ∃ φ', ja_fillSlots_L5 F nR nN nT gg m φ 0 (Int32.ofNat i) 15 = some φ' ∧ rp_fx φ φ' ∧ ∀ j, j < 15 → φ' 27 j = 0 := by
    intro m
    induction m with
    | zero => intro i φ h1 h2; omega
    | succ m ih =>
      intro i φ h1 h2 h3
      unfold ja_fillSlots_L5
      rw [show (15 : Int32) = Int32.ofNat 15 from rfl, yi_le (by omega) (by omega)]
      by_cases q : 15 ≤ i
      · rw [if_pos q]
        exact ⟨φ, rfl, fun _ _ _ => rfl, fun j hj => h3 j (by omega)⟩
      · rw [if_neg q, ya_in (by omega) (by omega), ya_nn (by omega), ya_add1]
        obtain ⟨φ', e, f, z⟩ := ih (i + 1) (qm_u φ 27 i 0) (by omega) (by omega) (fun j hj => by
          by_cases w : j = i
          · subst w; simp [qm_u]
          · have := h3 j (by omega)
            simp [qm_u, w, this])
        exact ⟨φ', e, fun a j ha => by rw [f a j ha]; simp [qm_u, ha], z⟩
  exact this F 0 φ (by omega) (by omega) (fun j hj => by omega)
theorem rp_x3 {B : List Nat} (hB : ∀ k x, B[k]? = some x → φ 16 k = Int32.ofNat x) (hl : B.length ≤ 5) (hs : B.sum ≤ 7) {x : Nat} (hx : x < 2147483648) : ∀ (k m : Nat) (φ1 : qm_F), k + 1 ≤ m → k ≤ B.length → rp_fx φ φ1 → (∀ j, k ≤ j → j < B.length → φ1 27 (3 + j) = rp_v B x j) → ∃ φ', pr_fillSlots_L76 F nR nN nT gg m φ1 (Int32.ofNat (x / 2 ^ (B.drop k).sum)) (Int32.ofNat k - 1) = some φ' ∧ rp_fx φ φ' ∧ (∀ j, j < B.length → φ' 27 (3 + j) = rp_v B x j) ∧ (∀ j, ¬ (3 ≤ j ∧ j < 3 + B.length) → φ' 27 j = φ1 27 j) := by
  have hd : ∀ i, i < B.length → φ 16 i = Int32.ofNat (B.getD i 0) := by
    intro i hi
    rw [hB i B[i] (List.getElem?_eq_getElem hi), List.getD_eq_getElem?_getD, List.getElem?_eq_getElem hi]
    rfl
  intro k
  induction k with
  | zero =>
    intro m φ1 h1 h2 f1 hv
    obtain ⟨m, rfl⟩ : ∃ z, m = z + 1 := ⟨m - 1, by omega⟩
    refine ⟨φ1, ?_, f1, fun j hj => hv j (by omega) hj, fun _ _ => rfl⟩
    unfold pr_fillSlots_L76
    rw [if_pos (by decide)]
  | succ k ih =>
    intro m φ1 h1 h2 f1 hv
    obtain ⟨m, rfl⟩ : ∃ z, m = z + 1 := ⟨m - 1, by omega⟩
    unfold pr_fillSlots_L76
    have hsk := rp_sumle B (k + 1)
    have ed : (B.drop (k + 1)).sum + B.getD k 0 = (B.drop k).sum := by
      have := rp_drop B (k := k) (by omega)
      omega
    have hb : B.getD k 0 ≤ 7 := by
      have := rp_drop B (k := k) (by omega)
      have := rp_sumle B k
      omega
    rw [ya_sub1 (by omega), Nat.add_sub_cancel, if_neg (ya_lt0 (by omega)), ya_in (by omega) (by omega), ya_nn (by omega), show (3 : Int32) + Int32.ofNat k = Int32.ofNat (3 + k) from ya_add 3 k, ya_in (by omega) (by omega), ya_nn (by omega), f1 16 k (by omega), hd k (by omega), ya_shr (by have := Nat.div_le_self x (2 ^ (B.drop (k + 1)).sum); omega) (by omega), Nat.div_div_eq_div_mul, ← Nat.pow_add, ed, ← Int32.sub_eq_add_neg]
    simp only [yg1]
    obtain ⟨φ', e, f, z, o⟩ := ih m (qm_u φ1 27 (3 + k) (Int32.ofNat (x / 2 ^ (B.drop (k + 1)).sum) &&& (((1 : Int32) <<< (Int32.ofNat (B.getD k 0) &&& 31)) - 1))) (by omega) (by omega) (fun a j ha => by rw [← f1 a j ha]; simp [qm_u, ha]) (fun j j1 j2 => by
      by_cases w : j = k
      · subst w
        unfold rp_v rp_sh
        rw [ya_u_same]
      · have := hv j (by omega) j2
        have w2 : 3 + j ≠ 3 + k := by omega
        simp [qm_u, w, this])
    refine ⟨φ', e, f, z, fun j hj => ?_⟩
    rw [o j hj]
    have : j ≠ 3 + k := by omega
    simp [qm_u, this]
theorem rp_x2 (hF : 4000 ≤ F) {I B : List Nat} (hI : ∀ k x, I[k]? = some x → φ 15 k = Int32.ofNat x) (hB : ∀ k x, B[k]? = some x → φ 16 k = Int32.ofNat x) (hIl : I.length ≤ 3) (hIs : I.sum ≤ 7) (hl : B.length ≤ 5) (hs : B.sum ≤ 7) (h142 : φ 14 2 = Int32.ofNat B.length) {x y : Nat} (hx : x < 2147483648) (hy : y < 2147483648) : ∀ (k m : Nat) (φ1 : qm_F), k + 1 ≤ m → k ≤ I.length → rp_fx φ φ1 → (∀ j, k ≤ j → j < I.length → φ1 27 j = rp_v I y j) → ∃ φ', pr_fillSlots_L24 F nR nN nT gg m φ1 (Int32.ofNat x) (Int32.ofNat (y / 2 ^ (I.drop k).sum)) (Int32.ofNat k - 1) = some φ' ∧ rp_fx φ φ' ∧ (∀ j, j < I.length → φ' 27 j = rp_v I y j) ∧ (∀ j, j < B.length → φ' 27 (3 + j) = rp_v B x j) ∧ (∀ j, ¬ (j < I.length) → ¬ (3 ≤ j ∧ j < 3 + B.length) → φ' 27 j = φ1 27 j) := by
  have hd : ∀ i, i < I.length → φ 15 i = Int32.ofNat (I.getD i 0) := by
    intro i hi
    rw [hI i I[i] (List.getElem?_eq_getElem hi), List.getD_eq_getElem?_getD, List.getElem?_eq_getElem hi]
    rfl
  intro k
  induction k with
  | zero =>
    intro m φ1 h1 h2 f1 hv
    obtain ⟨m, rfl⟩ : ∃ z, m = z + 1 := ⟨m - 1, by omega⟩
    obtain ⟨φ', e, f, z, o⟩ := rp_x3 (F := F) (nR := nR) (nN := nN) (nT := nT) (gg := gg) (φ := φ) hB hl hs hx B.length F φ1 (by omega) (Nat.le_refl _) f1 (fun j j1 j2 => by omega)
    refine ⟨φ', ?_, f, fun j hj => ?_, z, fun j j1 j2 => o j j2⟩
    · unfold pr_fillSlots_L24
      rw [if_pos (by decide), f1 14 2 (by omega), h142]
      have e0 : (B.drop B.length).sum = 0 := by rw [List.drop_eq_nil_of_le (Nat.le_refl _)]; rfl
      rw [e0, Nat.pow_zero, Nat.div_one] at e
      exact e
    · rw [o j (by omega)]; exact hv j (by omega) hj
  | succ k ih =>
    intro m φ1 h1 h2 f1 hv
    obtain ⟨m, rfl⟩ : ∃ z, m = z + 1 := ⟨m - 1, by omega⟩
    unfold pr_fillSlots_L24
    have hsk := rp_sumle I (k + 1)
    have ed : (I.drop (k + 1)).sum + I.getD k 0 = (I.drop k).sum := by
      have := rp_drop I (k := k) (by omega)
      omega
    have hb : I.getD k 0 ≤ 7 := by
      have := rp_drop I (k := k) (by omega)
      have := rp_sumle I k
      omega
    rw [ya_sub1 (by omega), Nat.add_sub_cancel, if_neg (ya_lt0 (by omega)), ya_in (by omega) (by omega), ya_in (by omega) (by omega), ya_nn (by omega), f1 15 k (by omega), hd k (by omega), ya_shr (by have := Nat.div_le_self y (2 ^ (I.drop (k + 1)).sum); omega) (by omega), Nat.div_div_eq_div_mul, ← Nat.pow_add, ed, ← Int32.sub_eq_add_neg]
    simp only [yg1]
    obtain ⟨φ', e, f, z, zb, o⟩ := ih m (qm_u φ1 27 k (Int32.ofNat (y / 2 ^ (I.drop (k + 1)).sum) &&& (((1 : Int32) <<< (Int32.ofNat (I.getD k 0) &&& 31)) - 1))) (by omega) (by omega) (fun a j ha => by rw [← f1 a j ha]; simp [qm_u, ha]) (fun j j1 j2 => by
      by_cases w : j = k
      · subst w
        unfold rp_v rp_sh
        rw [ya_u_same]
      · have := hv j (by omega) j2
        simp [qm_u, w, this])
    refine ⟨φ', e, f, z, zb, fun j hj1 hj2 => ?_⟩
    rw [o j hj1 hj2]
    have : j ≠ k := by omega
    simp [qm_u, this]
end R4
