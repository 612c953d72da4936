/-! THE WALK FROM THE ENTRY, given the case of ranked -/
theorem whole_from {p : Program} {e : Env} {s : State} {m : MethodId} {below : List Frame} {meth : Method} {c : Code} (l : Launch) {b L : Nat} {xs : Nat → Int32} (hL : L ≤ 3072) (C0 : lw_At p s m meth c b L xs)
    (w_ranked : ∀ (D : va_G) (G : ClassId × ClassId × ClassId) (K0 K1 X M o : Nat), va_K D vwCl (qm_tys G) s → qL_Z K0 K1 s → qE_case p l e room_1 s m #[Value.ref b] below meth c (lw_Z below #[Value.ref b] s) D G b L X M o 40 8000 (qE_R (200000 + 5)) 394) : W p l e room_1 s m #[Value.ref b] below meth c s.heap [] 0 0 (lw_Z below #[Value.ref b] s) (entryFrame m ([Value.ref b] : List Value).toArray 7) := by
  obtain ⟨hx, hb, hr, hml, hown, htb, hX, hbl, hlocks, hg⟩ := C0
  obtain ⟨D, G, hK⟩ := qE_va_K htb
  obtain ⟨K0, K1, hZ⟩ := qE_Zs hg htb
  have rf : room_1.frames = 2048 := rfl
  have rl : room_1.locals = 84000 := rfl
  have rc : room_1.cells = 601024 := rfl
  have rs : room_1.slots = 7293034 := rfl
  have hl := lv_entry ([Value.ref b]) (n := 7) (Nat.le_of_ble_eq_true rfl)
  rw [lg_entry_eq]
  generalize (lg_sl ([Value.ref b]) ++ List.replicate (7 - (lg_sl ([Value.ref b])).length) Slot.unset).toArray = ls at hl ⊢
  have hl : lv_has ls 7 [(0, .ref b)] := hl
  exact law_whole (C := 601024) (Z := 7293034) (F := 200000) hx hb hml hown (qE_hts htb) (qE_nw htb) hK hZ hX hbl hL (by rw [rf]; omega) (by rw [rl]; omega) (Nat.le_refl _) (by omega) (by omega) (by rw [rc]; exact Nat.le_refl _) (by rw [rs]; exact Nat.le_refl _) (fun X M o => w_ranked D G K0 K1 X M o hK hZ) (fun H ls => lw_ret hx hb hr hlocks dL_law_1091) hl
