section RnCls
theorem rnU0 : ∀ w ∈ u_ws rnR0 rnT0 7, w ∈ lw_tbl := by
  intro w hw
  rw [show u_ws rnR0 rnT0 7 = [101, 103, 105, 107, 109, 111, 113].filterMap (fun i => tables_1[i]?) by decide +kernel] at hw
  obtain ⟨i, -, hi⟩ := List.mem_filterMap.mp hw
  exact rn_tbl hi
theorem rnU1 : ∀ w ∈ u_ws rnR1 rnT1 6, w ∈ lw_tbl := by
  intro w hw
  rw [show u_ws rnR1 rnT1 6 = [60, 62, 64, 66, 68, 70].filterMap (fun i => tables_1[i]?) by decide +kernel] at hw
  obtain ⟨i, -, hi⟩ := List.mem_filterMap.mp hw
  exact rn_tbl hi
theorem rnU2 : ∀ w ∈ u_ws rnR2 rnT2 9, w ∈ lw_tbl := by
  intro w hw
  rw [show u_ws rnR2 rnT2 9 = [223, 225, 227, 229, 231, 233, 235, 237, 239].filterMap (fun i => tables_1[i]?) by decide +kernel] at hw
  obtain ⟨i, -, hi⟩ := List.mem_filterMap.mp hw
  exact rn_tbl hi
theorem rnU3 : ∀ w ∈ u_ws rnR3 rnT3 4, w ∈ lw_tbl := by
  intro w hw
  rw [show u_ws rnR3 rnT3 4 = [421, 423, 425, 427].filterMap (fun i => tables_1[i]?) by decide +kernel] at hw
  obtain ⟨i, -, hi⟩ := List.mem_filterMap.mp hw
  exact rn_tbl hi
theorem rnU4 : ∀ w ∈ u_ws rnR4 rnT4 3, w ∈ lw_tbl := by
  intro w hw
  rw [show u_ws rnR4 rnT4 3 = [187, 189, 191].filterMap (fun i => tables_1[i]?) by decide +kernel] at hw
  obtain ⟨i, -, hi⟩ := List.mem_filterMap.mp hw
  exact rn_tbl hi
theorem rnU5 : ∀ w ∈ u_ws rnR5 rnT5 9, w ∈ lw_tbl := by
  intro w hw
  rw [show u_ws rnR5 rnT5 9 = [392, 394, 396, 398, 400, 402, 404, 406, 408].filterMap (fun i => tables_1[i]?) by decide +kernel] at hw
  obtain ⟨i, -, hi⟩ := List.mem_filterMap.mp hw
  exact rn_tbl hi
theorem rnU6 : ∀ w ∈ u_ws rnR6 rnT6 10, w ∈ lw_tbl := by
  intro w hw
  rw [show u_ws rnR6 rnT6 10 = [270, 272, 274, 276, 278, 280, 282, 284, 286, 288].filterMap (fun i => tables_1[i]?) by decide +kernel] at hw
  obtain ⟨i, -, hi⟩ := List.mem_filterMap.mp hw
  exact rn_tbl hi
theorem rnU7 : ∀ w ∈ u_ws rnR7 rnT7 5, w ∈ lw_tbl := by
  intro w hw
  rw [show u_ws rnR7 rnT7 5 = [369, 371, 373, 375, 377].filterMap (fun i => tables_1[i]?) by decide +kernel] at hw
  obtain ⟨i, -, hi⟩ := List.mem_filterMap.mp hw
  exact rn_tbl hi
theorem rnU8 : ∀ w ∈ u_ws rnR8 rnT8 12, w ∈ lw_tbl := by
  intro w hw
  rw [show u_ws rnR8 rnT8 12 = [321, 323, 325, 327, 329, 331, 333, 335, 337, 339, 341, 343].filterMap (fun i => tables_1[i]?) by decide +kernel] at hw
  obtain ⟨i, -, hi⟩ := List.mem_filterMap.mp hw
  exact rn_tbl hi
theorem rnU9 : ∀ w ∈ u_ws rnR9 rnT9 3, w ∈ lw_tbl := by
  intro w hw
  rw [show u_ws rnR9 rnT9 3 = [440, 442, 444].filterMap (fun i => tables_1[i]?) by decide +kernel] at hw
  obtain ⟨i, -, hi⟩ := List.mem_filterMap.mp hw
  exact rn_tbl hi
theorem rnU10 : ∀ w ∈ u_ws rnR10 rnT10 14, w ∈ lw_tbl := by
  intro w hw
  rw [show u_ws rnR10 rnT10 14 = [145, 147, 149, 151, 153, 155, 157, 159, 161, 163, 165, 167, 169, 171].filterMap (fun i => tables_1[i]?) by decide +kernel] at hw
  obtain ⟨i, -, hi⟩ := List.mem_filterMap.mp hw
  exact rn_tbl hi
theorem rnU11 : ∀ w ∈ u_ws rnR11 rnT11 15, w ∈ lw_tbl := by
  intro w hw
  rw [show u_ws rnR11 rnT11 15 = [462, 464, 466, 468, 470, 472, 474, 476, 478, 480, 482, 484, 486, 488, 490].filterMap (fun i => tables_1[i]?) by decide +kernel] at hw
  obtain ⟨i, -, hi⟩ := List.mem_filterMap.mp hw
  exact rn_tbl hi
theorem rnU12 : ∀ w ∈ u_ws rnR12 rnT12 64, w ∈ lw_tbl := by
  intro w hw
  rw [show u_ws rnR12 rnT12 64 = [1287, 1289, 1291, 1293, 1295, 1297, 1299, 1301, 1303, 1305, 1307, 1309, 1311, 1313, 1315, 1317, 1319, 1321, 1323, 1325, 1327, 1329, 1331, 1333, 1335, 1337, 1339, 1341, 1343, 1345, 1347, 1349, 1351, 1353, 1355, 1357, 1359, 1361, 1363, 1365, 1367, 1369, 1371, 1373, 1375, 1377, 1379, 1381, 1383, 1385, 1387, 1389, 1391, 1393, 1395, 1397, 1399, 1401, 1403, 1405, 1407, 1409, 1411, 1413].filterMap (fun i => tables_1[i]?) by decide +kernel] at hw
  obtain ⟨i, -, hi⟩ := List.mem_filterMap.mp hw
  exact rn_tbl hi
def rnCok (ci : Nat) (q : vw_C) : Prop := (∀ w ∈ u_ws q.1 q.2.1 q.2.2, w ∈ lw_tbl) ∧ (∀ k, k < q.2.2 → parseFieldDescriptor (q.2.1 k).2.2.1 = some (rnTy ci k)) ∧ (∀ a, a < q.2.2 → ∀ b, b < q.2.2 → a ≠ b → (q.2.1 a).2.1 ≠ (q.2.1 b).2.1) ∧ Cond.instantiable q.1 q.2.2 ∈ lw_tbl ∧ Cond.initialized q.1 ∈ lw_tbl
theorem rnCl_ok : ∀ (ci : Nat) (q : vw_C), rnCl[ci]? = some q → rnCok ci q := by
  intro ci q h
  match ci, h with
  | 0, h => cases h; exact ⟨rnU0, rnO0, rnN0, rn_tbl (i := 75) (by decide +kernel), List.mem_append_right _ (List.contains_iff_mem.mp (rnIni_all 0 (by decide)))⟩
  | 1, h => cases h; exact ⟨rnU1, rnO1, rnN1, rn_tbl (i := 38) (by decide +kernel), List.mem_append_right _ (List.contains_iff_mem.mp (rnIni_all 1 (by decide)))⟩
  | 2, h => cases h; exact ⟨rnU2, rnO2, rnN2, rn_tbl (i := 201) (by decide +kernel), List.mem_append_right _ (List.contains_iff_mem.mp (rnIni_all 2 (by decide)))⟩
  | 3, h => cases h; exact ⟨rnU3, rnO3, rnN3, rn_tbl (i := 412) (by decide +kernel), List.mem_append_right _ (List.contains_iff_mem.mp (rnIni_all 3 (by decide)))⟩
  | 4, h => cases h; exact ⟨rnU4, rnO4, rnN4, rn_tbl (i := 175) (by decide +kernel), List.mem_append_right _ (List.contains_iff_mem.mp (rnIni_all 4 (by decide)))⟩
  | 5, h => cases h; exact ⟨rnU5, rnO5, rnN5, rn_tbl (i := 347) (by decide +kernel), List.mem_append_right _ (List.contains_iff_mem.mp (rnIni_all 5 (by decide)))⟩
  | 6, h => cases h; exact ⟨rnU6, rnO6, rnN6, rn_tbl (i := 195) (by decide +kernel), List.mem_append_right _ (List.contains_iff_mem.mp (rnIni_all 6 (by decide)))⟩
  | 7, h => cases h; exact ⟨rnU7, rnO7, rnN7, rn_tbl (i := 355) (by decide +kernel), List.mem_append_right _ (List.contains_iff_mem.mp (rnIni_all 7 (by decide)))⟩
  | 8, h => cases h; exact ⟨rnU8, rnO8, rnN8, rn_tbl (i := 292) (by decide +kernel), List.mem_append_right _ (List.contains_iff_mem.mp (rnIni_all 8 (by decide)))⟩
  | 9, h => cases h; exact ⟨rnU9, rnO9, rnN9, rn_tbl (i := 432) (by decide +kernel), List.mem_append_right _ (List.contains_iff_mem.mp (rnIni_all 9 (by decide)))⟩
  | 10, h => cases h; exact ⟨rnU10, rnO10, rnN10, rn_tbl (i := 32) (by decide +kernel), List.mem_append_right _ (List.contains_iff_mem.mp (rnIni_all 10 (by decide)))⟩
  | 11, h => cases h; exact ⟨rnU11, rnO11, rnN11, rn_tbl (i := 24) (by decide +kernel), List.mem_append_right _ (List.contains_iff_mem.mp (rnIni_all 11 (by decide)))⟩
  | 12, h => cases h; exact ⟨rnU12, rnO12, rnN12, rn_tbl (i := 1218) (by decide +kernel), List.mem_append_right _ (List.contains_iff_mem.mp (rnIni_all 12 (by decide)))⟩
  | n + 13, h => simp [rnCl] at h
end RnCls
