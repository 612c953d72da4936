/-! the tables' words that every method needs: by their places (wip/whole/gen_tables.py) -/
theorem qw_in (ws : List Cond) (ps : List Nat) (h : ws = ps.filterMap (fun i => lw_tbl[i]?)) : ∀ w ∈ ws, w ∈ lw_tbl := by
  intro w hw
  rw [h] at hw
  obtain ⟨i, -, hi⟩ := List.mem_filterMap.mp hw
  exact List.mem_of_getElem? hi
theorem qw_at {w : Cond} (i : Nat) (h : lw_tbl[i]? = some w) : w ∈ lw_tbl := List.mem_of_getElem? h
theorem qw_T {w : Cond} (h : w ∈ lw_tbl) (hg : goodWord w = true) : w ∈ qm_T := List.mem_filter.mpr ⟨h, hg⟩
theorem qw_g {w : Cond} (h : w ∈ qm_T) : goodWord w = true := (List.mem_filter.mp h).2
theorem qw_u0 : ∀ w ∈ u_ws RX0 TX0 10, w ∈ lw_tbl := qw_in _ [735, 737, 739, 741, 743, 745, 747, 749, 751, 753] (by decide +kernel)
theorem qw_i0 : Cond.instantiable RX0 10 ∈ lw_tbl := qw_at 716 (by decide +kernel)
theorem qw_n0 : Cond.initialized RX0 ∈ lw_tbl := qw_at 152 (by decide +kernel)
theorem qw_u1 : ∀ w ∈ u_ws RX1 TX1 3, w ∈ lw_tbl := qw_in _ [411, 413, 415] (by decide +kernel)
theorem qw_i1 : Cond.instantiable RX1 3 ∈ lw_tbl := qw_at 403 (by decide +kernel)
theorem qw_n1 : Cond.initialized RX1 ∈ lw_tbl := qw_at 149 (by decide +kernel)
theorem qw_u2 : ∀ w ∈ u_ws RX2 TX2 6, w ∈ lw_tbl := qw_in _ [511, 513, 515, 517, 519, 521] (by decide +kernel)
theorem qw_i2 : Cond.instantiable RX2 6 ∈ lw_tbl := qw_at 397 (by decide +kernel)
theorem qw_n2 : Cond.initialized RX2 ∈ lw_tbl := qw_at 148 (by decide +kernel)
theorem qw_u3 : ∀ w ∈ u_ws RX3 TX3 18, w ∈ lw_tbl := qw_in _ [468, 470, 472, 474, 476, 478, 480, 482, 484, 486, 488, 490, 492, 494, 496, 498, 500, 502] (by decide +kernel)
theorem qw_i3 : Cond.instantiable RX3 18 ∈ lw_tbl := qw_at 419 (by decide +kernel)
theorem qw_n3 : Cond.initialized RX3 ∈ lw_tbl := qw_at 150 (by decide +kernel)
theorem qw_u4 : ∀ w ∈ u_ws RX4 TX4 9, w ∈ lw_tbl := qw_in _ [802, 804, 806, 808, 810, 812, 814, 816, 818] (by decide +kernel)
theorem qw_i4 : Cond.instantiable RX4 9 ∈ lw_tbl := qw_at 778 (by decide +kernel)
theorem qw_n4 : Cond.initialized RX4 ∈ lw_tbl := qw_at 153 (by decide +kernel)
theorem qw_u5 : ∀ w ∈ u_ws RX5 TX5 2, w ∈ lw_tbl := qw_in _ [175, 177] (by decide +kernel)
theorem qw_i5 : Cond.instantiable RX5 2 ∈ lw_tbl := qw_at 168 (by decide +kernel)
theorem qw_n5 : Cond.initialized RX5 ∈ lw_tbl := qw_at 137 (by decide +kernel)
theorem qw_u6 : ∀ w ∈ u_ws RX6 TX6 6, w ∈ lw_tbl := qw_in _ [244, 246, 248, 250, 252, 254] (by decide +kernel)
theorem qw_i6 : Cond.instantiable RX6 6 ∈ lw_tbl := qw_at 209 (by decide +kernel)
theorem qw_n6 : Cond.initialized RX6 ∈ lw_tbl := qw_at 139 (by decide +kernel)
theorem qw_u7 : ∀ w ∈ u_ws RX7 TX7 4, w ∈ lw_tbl := qw_in _ [761, 763, 765, 767] (by decide +kernel)
theorem qw_i7 : Cond.instantiable RX7 4 ∈ lw_tbl := qw_at 710 (by decide +kernel)
theorem qw_n7 : Cond.initialized RX7 ∈ lw_tbl := qw_at 151 (by decide +kernel)
theorem qw_u8 : ∀ w ∈ u_ws RX8 TX8 3, w ∈ lw_tbl := qw_in _ [184, 186, 188] (by decide +kernel)
theorem qw_i8 : Cond.instantiable RX8 3 ∈ lw_tbl := qw_at 160 (by decide +kernel)
theorem qw_n8 : Cond.initialized RX8 ∈ lw_tbl := qw_at 136 (by decide +kernel)
theorem qw_u9 : ∀ w ∈ u_ws RX9 TX9 51, w ∈ lw_tbl := qw_in _ [1349, 1351, 1353, 1355, 1357, 1359, 1361, 1363, 1365, 1367, 1369, 1371, 1373, 1375, 1377, 1379, 1381, 1383, 1385, 1387, 1389, 1391, 1393, 1395, 1397, 1399, 1401, 1403, 1405, 1407, 1409, 1411, 1413, 1415, 1417, 1419, 1421, 1423, 1425, 1427, 1429, 1431, 1433, 1435, 1437, 1439, 1441, 1443, 1445, 1447, 1449] (by decide +kernel)
theorem qw_i9 : Cond.instantiable RX9 51 ∈ lw_tbl := qw_at 1293 (by decide +kernel)
theorem qw_n9 : Cond.initialized RX9 ∈ lw_tbl := qw_at 138 (by decide +kernel)
theorem qw_u {ci : Nat} (h : ci < 10) : ∀ w ∈ u_ws (qm_cR ci) (qm_cT ci) (qm_cN ci), w ∈ lw_tbl := by
  match ci, h with
  | 0, _ => exact qw_u0
  | 1, _ => exact qw_u1
  | 2, _ => exact qw_u2
  | 3, _ => exact qw_u3
  | 4, _ => exact qw_u4
  | 5, _ => exact qw_u5
  | 6, _ => exact qw_u6
  | 7, _ => exact qw_u7
  | 8, _ => exact qw_u8
  | 9, _ => exact qw_u9
theorem qw_i {ci : Nat} (h : ci < 10) : Cond.instantiable (qm_cR ci) (qm_cN ci) ∈ lw_tbl := by
  match ci, h with
  | 0, _ => exact qw_i0
  | 1, _ => exact qw_i1
  | 2, _ => exact qw_i2
  | 3, _ => exact qw_i3
  | 4, _ => exact qw_i4
  | 5, _ => exact qw_i5
  | 6, _ => exact qw_i6
  | 7, _ => exact qw_i7
  | 8, _ => exact qw_i8
  | 9, _ => exact qw_i9
theorem qw_n {ci : Nat} (h : ci < 10) : Cond.initialized (qm_cR ci) ∈ lw_tbl := by
  match ci, h with
  | 0, _ => exact qw_n0
  | 1, _ => exact qw_n1
  | 2, _ => exact qw_n2
  | 3, _ => exact qw_n3
  | 4, _ => exact qw_n4
  | 5, _ => exact qw_n5
  | 6, _ => exact qw_n6
  | 7, _ => exact qw_n7
  | 8, _ => exact qw_n8
  | 9, _ => exact qw_n9
theorem qw_aI : Cond.arrayClass .int ∈ lw_tbl := qw_at 180 (by decide +kernel)
theorem qw_aB : Cond.arrayClass .byte ∈ lw_tbl := qw_at 191 (by decide +kernel)
theorem qw_aZ : Cond.arrayClass .boolean ∈ lw_tbl := qw_at 821 (by decide +kernel)
theorem qw_aL : Cond.arrayClass .long ∈ lw_tbl := qw_at 1927 (by decide +kernel)
theorem qw_o1 : Cond.instanceMethod objectInit ∈ lw_tbl := qw_at 165 (by decide +kernel)
theorem qw_o2 : Cond.code objectInit ⟨#[0xb1]⟩ 1 none ∈ lw_tbl := qw_at 166 (by decide +kernel)
