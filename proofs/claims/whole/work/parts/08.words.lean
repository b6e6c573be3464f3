/-! WORDS of the tables, by their places (by program) -/
theorem inT {w : Cond} (i : Nat) (hi : tables_1[i]? = some w) (hg : goodWord w = true) : w ∈ lwG := List.mem_filter.mpr ⟨List.mem_append_right _ (List.mem_of_getElem? hi), hg⟩
theorem inP {w : Cond} (i : Nat) (hi : (k2_sels lw_privs)[i]? = some w) (hg : goodWord w = true) : w ∈ lwG := List.mem_filter.mpr ⟨List.mem_append_left _ (List.mem_of_getElem? hi), hg⟩
theorem inTs {ws : List Cond} (ps : List Nat) (hp : ws = ps.filterMap (fun i => tables_1[i]?)) (hg : ws.all goodWord = true) : ∀ w ∈ ws, w ∈ lwG := by
  intro w hw
  have h1 := List.all_eq_true.mp hg w hw
  rw [hp] at hw
  obtain ⟨i, -, hi⟩ := List.mem_filterMap.mp hw
  exact inT i hi h1
theorem inK1 {w : Cond} (i : Nat) (hi : tables_1_1[i]? = some w) (hg : goodWord w = true) : w ∈ lwG := by
  have h := List.mem_of_getElem? hi
  exact List.mem_filter.mpr ⟨List.mem_append_right _ (List.mem_append_left _ h), hg⟩
theorem inK2 {w : Cond} (i : Nat) (hi : tables_1_2[i]? = some w) (hg : goodWord w = true) : w ∈ lwG := by
  have h := List.mem_of_getElem? hi
  exact List.mem_filter.mpr ⟨List.mem_append_right _ (List.mem_append_right _ (List.mem_append_left _ h)), hg⟩
theorem inK3 {w : Cond} (i : Nat) (hi : tables_1_3[i]? = some w) (hg : goodWord w = true) : w ∈ lwG := by
  have h := List.mem_of_getElem? hi
  exact List.mem_filter.mpr ⟨List.mem_append_right _ (List.mem_append_right _ (List.mem_append_right _ (List.mem_append_left _ h))), hg⟩
theorem inK4 {w : Cond} (i : Nat) (hi : tables_1_4[i]? = some w) (hg : goodWord w = true) : w ∈ lwG := by
  have h := List.mem_of_getElem? hi
  exact List.mem_filter.mpr ⟨List.mem_append_right _ (List.mem_append_right _ (List.mem_append_right _ (List.mem_append_right _ (List.mem_append_left _ h)))), hg⟩
theorem inK5 {w : Cond} (i : Nat) (hi : tables_1_5[i]? = some w) (hg : goodWord w = true) : w ∈ lwG := by
  have h := List.mem_of_getElem? hi
  exact List.mem_filter.mpr ⟨List.mem_append_right _ (List.mem_append_right _ (List.mem_append_right _ (List.mem_append_right _ (List.mem_append_right _ (List.mem_append_left _ h))))), hg⟩
theorem inK6 {w : Cond} (i : Nat) (hi : tables_1_6[i]? = some w) (hg : goodWord w = true) : w ∈ lwG := by
  have h := List.mem_of_getElem? hi
  exact List.mem_filter.mpr ⟨List.mem_append_right _ (List.mem_append_right _ (List.mem_append_right _ (List.mem_append_right _ (List.mem_append_right _ (List.mem_append_right _ (List.mem_append_left _ h)))))), hg⟩
theorem inK7 {w : Cond} (i : Nat) (hi : tables_1_7[i]? = some w) (hg : goodWord w = true) : w ∈ lwG := by
  have h := List.mem_of_getElem? hi
  exact List.mem_filter.mpr ⟨List.mem_append_right _ (List.mem_append_right _ (List.mem_append_right _ (List.mem_append_right _ (List.mem_append_right _ (List.mem_append_right _ (List.mem_append_right _ (List.mem_append_left _ h))))))), hg⟩
theorem inK8 {w : Cond} (i : Nat) (hi : tables_1_8[i]? = some w) (hg : goodWord w = true) : w ∈ lwG := by
  have h := List.mem_of_getElem? hi
  exact List.mem_filter.mpr ⟨List.mem_append_right _ (List.mem_append_right _ (List.mem_append_right _ (List.mem_append_right _ (List.mem_append_right _ (List.mem_append_right _ (List.mem_append_right _ (List.mem_append_right _ (List.mem_append_left _ h)))))))), hg⟩
theorem inK9 {w : Cond} (i : Nat) (hi : tables_1_9[i]? = some w) (hg : goodWord w = true) : w ∈ lwG := by
  have h := List.mem_of_getElem? hi
  exact List.mem_filter.mpr ⟨List.mem_append_right _ (List.mem_append_right _ (List.mem_append_right _ (List.mem_append_right _ (List.mem_append_right _ (List.mem_append_right _ (List.mem_append_right _ (List.mem_append_right _ (List.mem_append_right _ (h))))))))), hg⟩
theorem ci_X0 : CI 0 RX0 TX0 6 tyX0 := ⟨rfl, inTs [267, 269, 271, 273, 275, 277] (by decide +kernel) (by decide +kernel), tyX0_ok, nmX0, rfl⟩
theorem ci_X1 : CI 1 RX1 TX1 6 tyX1 := ⟨rfl, inTs [59, 61, 63, 65, 67, 69] (by decide +kernel) (by decide +kernel), tyX1_ok, nmX1, rfl⟩
theorem ci_X2 : CI 2 RX2 TX2 7 tyX2 := ⟨rfl, inTs [182, 184, 186, 188, 190, 192, 194] (by decide +kernel) (by decide +kernel), tyX2_ok, nmX2, rfl⟩
theorem ci_X3 : CI 3 RX3 TX3 3 tyX3 := ⟨rfl, inTs [242, 244, 246] (by decide +kernel) (by decide +kernel), tyX3_ok, nmX3, rfl⟩
theorem ci_X4 : CI 4 RX4 TX4 3 tyX4 := ⟨rfl, inTs [207, 209, 211] (by decide +kernel) (by decide +kernel), tyX4_ok, nmX4, rfl⟩
theorem ci_X5 : CI 5 RX5 TX5 11 tyX5 := ⟨rfl, inTs [673, 675, 677, 679, 681, 683, 685, 687, 689, 691, 693] (by decide +kernel) (by decide +kernel), tyX5_ok, nmX5, rfl⟩
theorem ci_X6 : CI 6 RX6 TX6 3 tyX6 := ⟨rfl, inTs [88, 90, 92] (by decide +kernel) (by decide +kernel), tyX6_ok, nmX6, rfl⟩
theorem ci_X7 : CI 7 RX7 TX7 4 tyX7 := ⟨rfl, inTs [225, 227, 229, 231] (by decide +kernel) (by decide +kernel), tyX7_ok, nmX7, rfl⟩
theorem ci_X8 : CI 8 RX8 TX8 3 tyX8 := ⟨rfl, inTs [290, 292, 294] (by decide +kernel) (by decide +kernel), tyX8_ok, nmX8, rfl⟩
theorem ci_X9 : CI 9 RX9 TX9 12 tyX9 := ⟨rfl, inTs [129, 131, 133, 135, 137, 139, 141, 143, 145, 147, 149, 151] (by decide +kernel) (by decide +kernel), tyX9_ok, nmX9, rfl⟩
theorem ci_X11 : CI 10 RX11 TX11 17 tyX11 := ⟨rfl, inTs [324, 326, 328, 330, 332, 334, 336, 338, 340, 342, 344, 346, 348, 350, 352, 354, 356] (by decide +kernel) (by decide +kernel), tyX11_ok, nmX11, rfl⟩
theorem ci_X12 : CI 11 RX12 TX12 63 tyX12 := ⟨rfl, inTs [1419, 1421, 1423, 1425, 1427, 1429, 1431, 1433, 1435, 1437, 1439, 1441, 1443, 1445, 1447, 1449, 1451, 1453, 1455, 1457, 1459, 1461, 1463, 1465, 1467, 1469, 1471, 1473, 1475, 1477, 1479, 1481, 1483, 1485, 1487, 1489, 1491, 1493, 1495, 1497, 1499, 1501, 1503, 1505, 1507, 1509, 1511, 1513, 1515, 1517, 1519, 1521, 1523, 1525, 1527, 1529, 1531, 1533, 1535, 1537, 1539, 1541, 1543] (by decide +kernel) (by decide +kernel), tyX12_ok, nmX12, rfl⟩
theorem fl_X1_27 : FL RX1 27 1 0 := ⟨RX1, TX1, 6, tyX1, ci_X1, by decide, inK1 48 (by decide +kernel) rfl⟩
theorem fw_X1_27 : FW RX1 27 1 0 false (.int) := ⟨RX1, TX1, 6, tyX1, ci_X1, by decide, inK1 48 (by decide +kernel) rfl, rfl, rfl, fun _ => rfl⟩
theorem fl_X9_55 : FL RX9 55 1 0 := ⟨RX1, TX1, 6, tyX1, ci_X1, by decide, inK1 49 (by decide +kernel) rfl⟩
theorem fw_X9_55 : FW RX9 55 1 0 false (.int) := ⟨RX1, TX1, 6, tyX1, ci_X1, by decide, inK1 49 (by decide +kernel) rfl, rfl, rfl, fun q => by cases q⟩
theorem fl_X11_151 : FL RX11 151 1 0 := ⟨RX1, TX1, 6, tyX1, ci_X1, by decide, inK1 50 (by decide +kernel) rfl⟩
theorem fw_X11_151 : FW RX11 151 1 0 false (.int) := ⟨RX1, TX1, 6, tyX1, ci_X1, by decide, inK1 50 (by decide +kernel) rfl, rfl, rfl, fun q => by cases q⟩
theorem fl_X5_168 : FL RX5 168 1 0 := ⟨RX1, TX1, 6, tyX1, ci_X1, by decide, inK1 51 (by decide +kernel) rfl⟩
theorem fw_X5_168 : FW RX5 168 1 0 false (.int) := ⟨RX1, TX1, 6, tyX1, ci_X1, by decide, inK1 51 (by decide +kernel) rfl, rfl, rfl, fun q => by cases q⟩
theorem fl_X1_9 : FL RX1 9 1 1 := ⟨RX1, TX1, 6, tyX1, ci_X1, by decide, inK1 52 (by decide +kernel) rfl⟩
theorem fw_X1_9 : FW RX1 9 1 1 true (.array .int) := ⟨RX1, TX1, 6, tyX1, ci_X1, by decide, inK1 52 (by decide +kernel) rfl, rfl, rfl, fun _ => rfl⟩
theorem fl_X1_15 : FL RX1 15 1 2 := ⟨RX1, TX1, 6, tyX1, ci_X1, by decide, inK1 53 (by decide +kernel) rfl⟩
theorem fw_X1_15 : FW RX1 15 1 2 true (.array .int) := ⟨RX1, TX1, 6, tyX1, ci_X1, by decide, inK1 53 (by decide +kernel) rfl, rfl, rfl, fun _ => rfl⟩
theorem fl_X1_18 : FL RX1 18 1 3 := ⟨RX1, TX1, 6, tyX1, ci_X1, by decide, inK1 54 (by decide +kernel) rfl⟩
theorem fw_X1_18 : FW RX1 18 1 3 true (.array .int) := ⟨RX1, TX1, 6, tyX1, ci_X1, by decide, inK1 54 (by decide +kernel) rfl, rfl, rfl, fun _ => rfl⟩
theorem fl_X1_21 : FL RX1 21 1 4 := ⟨RX1, TX1, 6, tyX1, ci_X1, by decide, inK1 55 (by decide +kernel) rfl⟩
theorem fw_X1_21 : FW RX1 21 1 4 true (.array .int) := ⟨RX1, TX1, 6, tyX1, ci_X1, by decide, inK1 55 (by decide +kernel) rfl, rfl, rfl, fun _ => rfl⟩
theorem fl_X11_343 : FL RX11 343 1 4 := ⟨RX1, TX1, 6, tyX1, ci_X1, by decide, inK1 56 (by decide +kernel) rfl⟩
theorem fl_X1_24 : FL RX1 24 1 5 := ⟨RX1, TX1, 6, tyX1, ci_X1, by decide, inK1 57 (by decide +kernel) rfl⟩
theorem fw_X1_24 : FW RX1 24 1 5 true (.array .int) := ⟨RX1, TX1, 6, tyX1, ci_X1, by decide, inK1 57 (by decide +kernel) rfl, rfl, rfl, fun _ => rfl⟩
theorem fl_X11_346 : FL RX11 346 1 5 := ⟨RX1, TX1, 6, tyX1, ci_X1, by decide, inK1 58 (by decide +kernel) rfl⟩
theorem fl_X6_7 : FL RX6 7 6 0 := ⟨RX6, TX6, 3, tyX6, ci_X6, by decide, inK1 80 (by decide +kernel) rfl⟩
theorem fw_X6_7 : FW RX6 7 6 0 false (.boolean) := ⟨RX6, TX6, 3, tyX6, ci_X6, by decide, inK1 80 (by decide +kernel) rfl, rfl, rfl, fun _ => rfl⟩
theorem fl_X9_74 : FL RX9 74 6 0 := ⟨RX6, TX6, 3, tyX6, ci_X6, by decide, inK1 81 (by decide +kernel) rfl⟩
theorem fw_X9_74 : FW RX9 74 6 0 false (.boolean) := ⟨RX6, TX6, 3, tyX6, ci_X6, by decide, inK1 81 (by decide +kernel) rfl, rfl, rfl, fun q => by cases q⟩
theorem fl_X5_186 : FL RX5 186 6 0 := ⟨RX6, TX6, 3, tyX6, ci_X6, by decide, inK1 82 (by decide +kernel) rfl⟩
theorem fw_X5_186 : FW RX5 186 6 0 false (.boolean) := ⟨RX6, TX6, 3, tyX6, ci_X6, by decide, inK1 82 (by decide +kernel) rfl, rfl, rfl, fun q => by cases q⟩
theorem fl_X2_78 : FL RX2 78 6 0 := ⟨RX6, TX6, 3, tyX6, ci_X6, by decide, inK1 83 (by decide +kernel) rfl⟩
theorem fw_X2_78 : FW RX2 78 6 0 false (.boolean) := ⟨RX6, TX6, 3, tyX6, ci_X6, by decide, inK1 83 (by decide +kernel) rfl, rfl, rfl, fun q => by cases q⟩
theorem fl_X6_13 : FL RX6 13 6 1 := ⟨RX6, TX6, 3, tyX6, ci_X6, by decide, inK1 84 (by decide +kernel) rfl⟩
theorem fw_X6_13 : FW RX6 13 6 1 false (.int) := ⟨RX6, TX6, 3, tyX6, ci_X6, by decide, inK1 84 (by decide +kernel) rfl, rfl, rfl, fun _ => rfl⟩
theorem fl_X9_77 : FL RX9 77 6 1 := ⟨RX6, TX6, 3, tyX6, ci_X6, by decide, inK1 85 (by decide +kernel) rfl⟩
theorem fw_X9_77 : FW RX9 77 6 1 false (.int) := ⟨RX6, TX6, 3, tyX6, ci_X6, by decide, inK1 85 (by decide +kernel) rfl, rfl, rfl, fun q => by cases q⟩
theorem fl_X6_17 : FL RX6 17 6 2 := ⟨RX6, TX6, 3, tyX6, ci_X6, by decide, inK1 86 (by decide +kernel) rfl⟩
theorem fw_X6_17 : FW RX6 17 6 2 false (.int) := ⟨RX6, TX6, 3, tyX6, ci_X6, by decide, inK1 86 (by decide +kernel) rfl, rfl, rfl, fun _ => rfl⟩
theorem fl_X9_80 : FL RX9 80 6 2 := ⟨RX6, TX6, 3, tyX6, ci_X6, by decide, inK1 87 (by decide +kernel) rfl⟩
theorem fw_X9_80 : FW RX9 80 6 2 false (.int) := ⟨RX6, TX6, 3, tyX6, ci_X6, by decide, inK1 87 (by decide +kernel) rfl, rfl, rfl, fun q => by cases q⟩
theorem fl_X9_42 : FL RX9 42 9 0 := ⟨RX9, TX9, 12, tyX9, ci_X9, by decide, inK1 95 (by decide +kernel) rfl⟩
theorem fw_X9_42 : FW RX9 42 9 0 false (.int) := ⟨RX9, TX9, 12, tyX9, ci_X9, by decide, inK1 95 (by decide +kernel) rfl, rfl, rfl, fun _ => rfl⟩
theorem fl_X8_22 : FL RX8 22 9 0 := ⟨RX9, TX9, 12, tyX9, ci_X9, by decide, inK1 96 (by decide +kernel) rfl⟩
theorem fw_X8_22 : FW RX8 22 9 0 false (.int) := ⟨RX9, TX9, 12, tyX9, ci_X9, by decide, inK1 96 (by decide +kernel) rfl, rfl, rfl, fun q => by cases q⟩
theorem fl_X0_53 : FL RX0 53 9 0 := ⟨RX9, TX9, 12, tyX9, ci_X9, by decide, inK1 97 (by decide +kernel) rfl⟩
theorem fw_X0_53 : FW RX0 53 9 0 false (.int) := ⟨RX9, TX9, 12, tyX9, ci_X9, by decide, inK1 97 (by decide +kernel) rfl, rfl, rfl, fun q => by cases q⟩
theorem fl_X11_141 : FL RX11 141 9 0 := ⟨RX9, TX9, 12, tyX9, ci_X9, by decide, inK1 98 (by decide +kernel) rfl⟩
theorem fw_X11_141 : FW RX11 141 9 0 false (.int) := ⟨RX9, TX9, 12, tyX9, ci_X9, by decide, inK1 98 (by decide +kernel) rfl, rfl, rfl, fun q => by cases q⟩
theorem fl_X2_40 : FL RX2 40 9 0 := ⟨RX9, TX9, 12, tyX9, ci_X9, by decide, inK1 99 (by decide +kernel) rfl⟩
theorem fw_X2_40 : FW RX2 40 9 0 false (.int) := ⟨RX9, TX9, 12, tyX9, ci_X9, by decide, inK1 99 (by decide +kernel) rfl, rfl, rfl, fun q => by cases q⟩
theorem fl_X5_130 : FL RX5 130 9 0 := ⟨RX9, TX9, 12, tyX9, ci_X9, by decide, inK1 100 (by decide +kernel) rfl⟩
theorem fw_X5_130 : FW RX5 130 9 0 false (.int) := ⟨RX9, TX9, 12, tyX9, ci_X9, by decide, inK1 100 (by decide +kernel) rfl, rfl, rfl, fun q => by cases q⟩
theorem fl_X9_45 : FL RX9 45 9 1 := ⟨RX9, TX9, 12, tyX9, ci_X9, by decide, inK1 101 (by decide +kernel) rfl⟩
theorem fw_X9_45 : FW RX9 45 9 1 false (.int) := ⟨RX9, TX9, 12, tyX9, ci_X9, by decide, inK1 101 (by decide +kernel) rfl, rfl, rfl, fun _ => rfl⟩
theorem fl_X8_27 : FL RX8 27 9 1 := ⟨RX9, TX9, 12, tyX9, ci_X9, by decide, inK1 102 (by decide +kernel) rfl⟩
theorem fw_X8_27 : FW RX8 27 9 1 false (.int) := ⟨RX9, TX9, 12, tyX9, ci_X9, by decide, inK1 102 (by decide +kernel) rfl, rfl, rfl, fun q => by cases q⟩
theorem fl_X11_144 : FL RX11 144 9 1 := ⟨RX9, TX9, 12, tyX9, ci_X9, by decide, inK1 103 (by decide +kernel) rfl⟩
theorem fw_X11_144 : FW RX11 144 9 1 false (.int) := ⟨RX9, TX9, 12, tyX9, ci_X9, by decide, inK1 103 (by decide +kernel) rfl, rfl, rfl, fun q => by cases q⟩
theorem fl_X2_45 : FL RX2 45 9 1 := ⟨RX9, TX9, 12, tyX9, ci_X9, by decide, inK1 104 (by decide +kernel) rfl⟩
theorem fw_X2_45 : FW RX2 45 9 1 false (.int) := ⟨RX9, TX9, 12, tyX9, ci_X9, by decide, inK1 104 (by decide +kernel) rfl, rfl, rfl, fun q => by cases q⟩
theorem fl_X5_146 : FL RX5 146 9 1 := ⟨RX9, TX9, 12, tyX9, ci_X9, by decide, inK1 105 (by decide +kernel) rfl⟩
theorem fw_X5_146 : FW RX5 146 9 1 false (.int) := ⟨RX9, TX9, 12, tyX9, ci_X9, by decide, inK1 105 (by decide +kernel) rfl, rfl, rfl, fun q => by cases q⟩
theorem fl_X9_9 : FL RX9 9 9 2 := ⟨RX9, TX9, 12, tyX9, ci_X9, by decide, inK1 106 (by decide +kernel) rfl⟩
theorem fw_X9_9 : FW RX9 9 9 2 false (.int) := ⟨RX9, TX9, 12, tyX9, ci_X9, by decide, inK1 106 (by decide +kernel) rfl, rfl, rfl, fun _ => rfl⟩
theorem fl_X11_156 : FL RX11 156 9 2 := ⟨RX9, TX9, 12, tyX9, ci_X9, by decide, inK1 107 (by decide +kernel) rfl⟩
theorem fw_X11_156 : FW RX11 156 9 2 false (.int) := ⟨RX9, TX9, 12, tyX9, ci_X9, by decide, inK1 107 (by decide +kernel) rfl, rfl, rfl, fun q => by cases q⟩
theorem fl_X5_183 : FL RX5 183 9 2 := ⟨RX9, TX9, 12, tyX9, ci_X9, by decide, inK1 108 (by decide +kernel) rfl⟩
theorem fw_X5_183 : FW RX5 183 9 2 false (.int) := ⟨RX9, TX9, 12, tyX9, ci_X9, by decide, inK1 108 (by decide +kernel) rfl, rfl, rfl, fun q => by cases q⟩
theorem fl_X9_48 : FL RX9 48 9 3 := ⟨RX9, TX9, 12, tyX9, ci_X9, by decide, inK1 109 (by decide +kernel) rfl⟩
theorem fw_X9_48 : FW RX9 48 9 3 false (.boolean) := ⟨RX9, TX9, 12, tyX9, ci_X9, by decide, inK1 109 (by decide +kernel) rfl, rfl, rfl, fun _ => rfl⟩
theorem fl_X5_180 : FL RX5 180 9 3 := ⟨RX9, TX9, 12, tyX9, ci_X9, by decide, inK1 110 (by decide +kernel) rfl⟩
theorem fw_X5_180 : FW RX5 180 9 3 false (.boolean) := ⟨RX9, TX9, 12, tyX9, ci_X9, by decide, inK1 110 (by decide +kernel) rfl, rfl, rfl, fun q => by cases q⟩
theorem fl_X9_52 : FL RX9 52 9 4 := ⟨RX9, TX9, 12, tyX9, ci_X9, by decide, inK1 111 (by decide +kernel) rfl⟩
theorem fw_X9_52 : FW RX9 52 9 4 false (.boolean) := ⟨RX9, TX9, 12, tyX9, ci_X9, by decide, inK1 111 (by decide +kernel) rfl, rfl, rfl, fun _ => rfl⟩
theorem fl_X5_160 : FL RX5 160 9 4 := ⟨RX9, TX9, 12, tyX9, ci_X9, by decide, inK1 112 (by decide +kernel) rfl⟩
theorem fw_X5_160 : FW RX5 160 9 4 false (.boolean) := ⟨RX9, TX9, 12, tyX9, ci_X9, by decide, inK1 112 (by decide +kernel) rfl, rfl, rfl, fun q => by cases q⟩
theorem fl_X9_15 : FL RX9 15 9 5 := ⟨RX9, TX9, 12, tyX9, ci_X9, by decide, inK1 113 (by decide +kernel) rfl⟩
theorem fw_X9_15 : FW RX9 15 9 5 true (.array .int) := ⟨RX9, TX9, 12, tyX9, ci_X9, by decide, inK1 113 (by decide +kernel) rfl, rfl, rfl, fun _ => rfl⟩
theorem fl_X11_210 : FL RX11 210 9 5 := ⟨RX9, TX9, 12, tyX9, ci_X9, by decide, inK1 114 (by decide +kernel) rfl⟩
theorem fl_X5_152 : FL RX5 152 9 5 := ⟨RX9, TX9, 12, tyX9, ci_X9, by decide, inK1 115 (by decide +kernel) rfl⟩
theorem fl_X2_142 : FL RX2 142 9 5 := ⟨RX9, TX9, 12, tyX9, ci_X9, by decide, inK1 116 (by decide +kernel) rfl⟩
theorem fl_X9_22 : FL RX9 22 9 6 := ⟨RX9, TX9, 12, tyX9, ci_X9, by decide, inK1 117 (by decide +kernel) rfl⟩
theorem fw_X9_22 : FW RX9 22 9 6 true (.object "HorizonSeam$Knots") := ⟨RX9, TX9, 12, tyX9, ci_X9, by decide, inK1 117 (by decide +kernel) rfl, rfl, rfl, fun _ => rfl⟩
theorem fl_X11_147 : FL RX11 147 9 6 := ⟨RX9, TX9, 12, tyX9, ci_X9, by decide, inK1 118 (by decide +kernel) rfl⟩
theorem fl_X5_164 : FL RX5 164 9 6 := ⟨RX9, TX9, 12, tyX9, ci_X9, by decide, inK1 119 (by decide +kernel) rfl⟩
theorem fl_X9_29 : FL RX9 29 9 7 := ⟨RX9, TX9, 12, tyX9, ci_X9, by decide, inK1 120 (by decide +kernel) rfl⟩
theorem fw_X9_29 : FW RX9 29 9 7 true (.object "HorizonSeam$Rule") := ⟨RX9, TX9, 12, tyX9, ci_X9, by decide, inK1 120 (by decide +kernel) rfl, rfl, rfl, fun _ => rfl⟩
theorem fl_X5_114 : FL RX5 114 9 7 := ⟨RX9, TX9, 12, tyX9, ci_X9, by decide, inK1 121 (by decide +kernel) rfl⟩
theorem fl_X2_92 : FL RX2 92 9 7 := ⟨RX9, TX9, 12, tyX9, ci_X9, by decide, inK1 122 (by decide +kernel) rfl⟩
theorem fl_X9_33 : FL RX9 33 9 8 := ⟨RX9, TX9, 12, tyX9, ci_X9, by decide, inK1 123 (by decide +kernel) rfl⟩
theorem fw_X9_33 : FW RX9 33 9 8 true (.object "HorizonSeam$Rule") := ⟨RX9, TX9, 12, tyX9, ci_X9, by decide, inK1 123 (by decide +kernel) rfl, rfl, rfl, fun _ => rfl⟩
theorem fl_X5_127 : FL RX5 127 9 8 := ⟨RX9, TX9, 12, tyX9, ci_X9, by decide, inK1 124 (by decide +kernel) rfl⟩
theorem fl_X2_74 : FL RX2 74 9 8 := ⟨RX9, TX9, 12, tyX9, ci_X9, by decide, inK1 125 (by decide +kernel) rfl⟩
theorem fl_X9_36 : FL RX9 36 9 9 := ⟨RX9, TX9, 12, tyX9, ci_X9, by decide, inK1 126 (by decide +kernel) rfl⟩
theorem fw_X9_36 : FW RX9 36 9 9 true (.array .int) := ⟨RX9, TX9, 12, tyX9, ci_X9, by decide, inK1 126 (by decide +kernel) rfl, rfl, rfl, fun _ => rfl⟩
theorem fl_X9_61 : FL RX9 61 9 10 := ⟨RX9, TX9, 12, tyX9, ci_X9, by decide, inK1 127 (by decide +kernel) rfl⟩
theorem fw_X9_61 : FW RX9 61 9 10 false (.int) := ⟨RX9, TX9, 12, tyX9, ci_X9, by decide, inK1 127 (by decide +kernel) rfl, rfl, rfl, fun _ => rfl⟩
theorem fl_X9_39 : FL RX9 39 9 11 := ⟨RX9, TX9, 12, tyX9, ci_X9, by decide, inK1 128 (by decide +kernel) rfl⟩
theorem fw_X9_39 : FW RX9 39 9 11 true (.array .int) := ⟨RX9, TX9, 12, tyX9, ci_X9, by decide, inK1 128 (by decide +kernel) rfl, rfl, rfl, fun _ => rfl⟩
theorem fl_X2_30 : FL RX2 30 2 0 := ⟨RX2, TX2, 7, tyX2, ci_X2, by decide, inK1 166 (by decide +kernel) rfl⟩
theorem fw_X2_30 : FW RX2 30 2 0 false (.int) := ⟨RX2, TX2, 7, tyX2, ci_X2, by decide, inK1 166 (by decide +kernel) rfl, rfl, rfl, fun _ => rfl⟩
theorem fl_X11_105 : FL RX11 105 2 0 := ⟨RX2, TX2, 7, tyX2, ci_X2, by decide, inK1 167 (by decide +kernel) rfl⟩
theorem fw_X11_105 : FW RX11 105 2 0 false (.int) := ⟨RX2, TX2, 7, tyX2, ci_X2, by decide, inK1 167 (by decide +kernel) rfl, rfl, rfl, fun q => by cases q⟩
theorem fl_X2_9 : FL RX2 9 2 1 := ⟨RX2, TX2, 7, tyX2, ci_X2, by decide, inK1 168 (by decide +kernel) rfl⟩
theorem fw_X2_9 : FW RX2 9 2 1 true (.array .int) := ⟨RX2, TX2, 7, tyX2, ci_X2, by decide, inK1 168 (by decide +kernel) rfl, rfl, rfl, fun _ => rfl⟩
theorem fl_X11_182 : FL RX11 182 2 1 := ⟨RX2, TX2, 7, tyX2, ci_X2, by decide, inK1 169 (by decide +kernel) rfl⟩
theorem fl_X2_15 : FL RX2 15 2 2 := ⟨RX2, TX2, 7, tyX2, ci_X2, by decide, inK1 170 (by decide +kernel) rfl⟩
theorem fw_X2_15 : FW RX2 15 2 2 true (.array .int) := ⟨RX2, TX2, 7, tyX2, ci_X2, by decide, inK1 170 (by decide +kernel) rfl, rfl, rfl, fun _ => rfl⟩
theorem fl_X0_58 : FL RX0 58 2 2 := ⟨RX2, TX2, 7, tyX2, ci_X2, by decide, inK1 171 (by decide +kernel) rfl⟩
theorem fl_X7_37 : FL RX7 37 2 2 := ⟨RX2, TX2, 7, tyX2, ci_X2, by decide, inK1 172 (by decide +kernel) rfl⟩
theorem fl_X11_185 : FL RX11 185 2 2 := ⟨RX2, TX2, 7, tyX2, ci_X2, by decide, inK1 173 (by decide +kernel) rfl⟩
theorem fl_X2_18 : FL RX2 18 2 3 := ⟨RX2, TX2, 7, tyX2, ci_X2, by decide, inK1 174 (by decide +kernel) rfl⟩
theorem fw_X2_18 : FW RX2 18 2 3 true (.array .int) := ⟨RX2, TX2, 7, tyX2, ci_X2, by decide, inK1 174 (by decide +kernel) rfl, rfl, rfl, fun _ => rfl⟩
theorem fl_X11_188 : FL RX11 188 2 3 := ⟨RX2, TX2, 7, tyX2, ci_X2, by decide, inK1 175 (by decide +kernel) rfl⟩
theorem fl_X2_21 : FL RX2 21 2 4 := ⟨RX2, TX2, 7, tyX2, ci_X2, by decide, inK1 176 (by decide +kernel) rfl⟩
theorem fw_X2_21 : FW RX2 21 2 4 true (.array .int) := ⟨RX2, TX2, 7, tyX2, ci_X2, by decide, inK1 176 (by decide +kernel) rfl, rfl, rfl, fun _ => rfl⟩
theorem fl_X8_50 : FL RX8 50 2 4 := ⟨RX2, TX2, 7, tyX2, ci_X2, by decide, inK1 177 (by decide +kernel) rfl⟩
theorem fl_X11_213 : FL RX11 213 2 4 := ⟨RX2, TX2, 7, tyX2, ci_X2, by decide, inK1 178 (by decide +kernel) rfl⟩
theorem fl_X2_24 : FL RX2 24 2 5 := ⟨RX2, TX2, 7, tyX2, ci_X2, by decide, inK1 179 (by decide +kernel) rfl⟩
theorem fw_X2_24 : FW RX2 24 2 5 true (.array .int) := ⟨RX2, TX2, 7, tyX2, ci_X2, by decide, inK1 179 (by decide +kernel) rfl, rfl, rfl, fun _ => rfl⟩
theorem fl_X11_216 : FL RX11 216 2 5 := ⟨RX2, TX2, 7, tyX2, ci_X2, by decide, inK1 180 (by decide +kernel) rfl⟩
theorem fl_X2_27 : FL RX2 27 2 6 := ⟨RX2, TX2, 7, tyX2, ci_X2, by decide, inK1 181 (by decide +kernel) rfl⟩
theorem fw_X2_27 : FW RX2 27 2 6 true (.array .int) := ⟨RX2, TX2, 7, tyX2, ci_X2, by decide, inK1 181 (by decide +kernel) rfl, rfl, rfl, fun _ => rfl⟩
theorem fl_X4_15 : FL RX4 15 4 0 := ⟨RX4, TX4, 3, tyX4, ci_X4, by decide, inK1 203 (by decide +kernel) rfl⟩
theorem fw_X4_15 : FW RX4 15 4 0 false (.int) := ⟨RX4, TX4, 3, tyX4, ci_X4, by decide, inK1 203 (by decide +kernel) rfl, rfl, rfl, fun _ => rfl⟩
theorem fl_X11_172 : FL RX11 172 4 0 := ⟨RX4, TX4, 3, tyX4, ci_X4, by decide, inK1 204 (by decide +kernel) rfl⟩
theorem fw_X11_172 : FW RX11 172 4 0 false (.int) := ⟨RX4, TX4, 3, tyX4, ci_X4, by decide, inK1 204 (by decide +kernel) rfl, rfl, rfl, fun q => by cases q⟩
theorem fl_X4_19 : FL RX4 19 4 1 := ⟨RX4, TX4, 3, tyX4, ci_X4, by decide, inK1 205 (by decide +kernel) rfl⟩
theorem fw_X4_19 : FW RX4 19 4 1 false (.int) := ⟨RX4, TX4, 3, tyX4, ci_X4, by decide, inK1 205 (by decide +kernel) rfl, rfl, rfl, fun _ => rfl⟩
theorem fl_X4_9 : FL RX4 9 4 2 := ⟨RX4, TX4, 3, tyX4, ci_X4, by decide, inK1 206 (by decide +kernel) rfl⟩
theorem fw_X4_9 : FW RX4 9 4 2 true (.array .int) := ⟨RX4, TX4, 3, tyX4, ci_X4, by decide, inK1 206 (by decide +kernel) rfl, rfl, rfl, fun _ => rfl⟩
theorem fl_X7_21 : FL RX7 21 7 0 := ⟨RX7, TX7, 4, tyX7, ci_X7, by decide, inK1 220 (by decide +kernel) rfl⟩
theorem fw_X7_21 : FW RX7 21 7 0 false (.int) := ⟨RX7, TX7, 4, tyX7, ci_X7, by decide, inK1 220 (by decide +kernel) rfl, rfl, rfl, fun _ => rfl⟩
theorem fl_X11_173 : FL RX11 173 7 0 := ⟨RX7, TX7, 4, tyX7, ci_X7, by decide, inK1 221 (by decide +kernel) rfl⟩
theorem fw_X11_173 : FW RX11 173 7 0 false (.int) := ⟨RX7, TX7, 4, tyX7, ci_X7, by decide, inK1 221 (by decide +kernel) rfl, rfl, rfl, fun q => by cases q⟩
theorem fl_X7_9 : FL RX7 9 7 1 := ⟨RX7, TX7, 4, tyX7, ci_X7, by decide, inK1 222 (by decide +kernel) rfl⟩
theorem fw_X7_9 : FW RX7 9 7 1 true (.array .int) := ⟨RX7, TX7, 4, tyX7, ci_X7, by decide, inK1 222 (by decide +kernel) rfl, rfl, rfl, fun _ => rfl⟩
theorem fl_X7_15 : FL RX7 15 7 2 := ⟨RX7, TX7, 4, tyX7, ci_X7, by decide, inK1 223 (by decide +kernel) rfl⟩
theorem fw_X7_15 : FW RX7 15 7 2 true (.array .int) := ⟨RX7, TX7, 4, tyX7, ci_X7, by decide, inK1 223 (by decide +kernel) rfl, rfl, rfl, fun _ => rfl⟩
theorem fl_X7_18 : FL RX7 18 7 3 := ⟨RX7, TX7, 4, tyX7, ci_X7, by decide, inK1 224 (by decide +kernel) rfl⟩
theorem fw_X7_18 : FW RX7 18 7 3 true (.array .int) := ⟨RX7, TX7, 4, tyX7, ci_X7, by decide, inK1 224 (by decide +kernel) rfl, rfl, rfl, fun _ => rfl⟩
theorem fl_X3_10 : FL RX3 10 3 0 := ⟨RX3, TX3, 3, tyX3, ci_X3, by decide, inK1 234 (by decide +kernel) rfl⟩
theorem fw_X3_10 : FW RX3 10 3 0 true (.object "HorizonSeam$Land") := ⟨RX3, TX3, 3, tyX3, ci_X3, by decide, inK1 234 (by decide +kernel) rfl, rfl, rfl, fun _ => rfl⟩
theorem fl_X11_84 : FL RX11 84 3 0 := ⟨RX3, TX3, 3, tyX3, ci_X3, by decide, inK1 235 (by decide +kernel) rfl⟩
theorem fl_X0_29 : FL RX0 29 3 0 := ⟨RX3, TX3, 3, tyX3, ci_X3, by decide, inK1 236 (by decide +kernel) rfl⟩
theorem fl_X3_19 : FL RX3 19 3 1 := ⟨RX3, TX3, 3, tyX3, ci_X3, by decide, inK1 237 (by decide +kernel) rfl⟩
theorem fw_X3_19 : FW RX3 19 3 1 true (.object "HorizonSeam$Past") := ⟨RX3, TX3, 3, tyX3, ci_X3, by decide, inK1 237 (by decide +kernel) rfl, rfl, rfl, fun _ => rfl⟩
theorem fl_X11_127 : FL RX11 127 3 1 := ⟨RX3, TX3, 3, tyX3, ci_X3, by decide, inK1 238 (by decide +kernel) rfl⟩
theorem fl_X3_26 : FL RX3 26 3 2 := ⟨RX3, TX3, 3, tyX3, ci_X3, by decide, inK1 239 (by decide +kernel) rfl⟩
theorem fw_X3_26 : FW RX3 26 3 2 true (.object "HorizonSeam$Seen") := ⟨RX3, TX3, 3, tyX3, ci_X3, by decide, inK1 239 (by decide +kernel) rfl, rfl, rfl, fun _ => rfl⟩
theorem fl_X0_38 : FL RX0 38 3 2 := ⟨RX3, TX3, 3, tyX3, ci_X3, by decide, inK2 0 (by decide +kernel) rfl⟩
theorem fl_X11_134 : FL RX11 134 3 2 := ⟨RX3, TX3, 3, tyX3, ci_X3, by decide, inK2 1 (by decide +kernel) rfl⟩
theorem fl_X0_46 : FL RX0 46 0 0 := ⟨RX0, TX0, 6, tyX0, ci_X0, by decide, inK2 19 (by decide +kernel) rfl⟩
theorem fw_X0_46 : FW RX0 46 0 0 false (.int) := ⟨RX0, TX0, 6, tyX0, ci_X0, by decide, inK2 19 (by decide +kernel) rfl, rfl, rfl, fun _ => rfl⟩
theorem fl_X11_361 : FL RX11 361 0 0 := ⟨RX0, TX0, 6, tyX0, ci_X0, by decide, inK2 20 (by decide +kernel) rfl⟩
theorem fw_X11_361 : FW RX11 361 0 0 false (.int) := ⟨RX0, TX0, 6, tyX0, ci_X0, by decide, inK2 20 (by decide +kernel) rfl, rfl, rfl, fun q => by cases q⟩
theorem fl_X0_50 : FL RX0 50 0 1 := ⟨RX0, TX0, 6, tyX0, ci_X0, by decide, inK2 21 (by decide +kernel) rfl⟩
theorem fw_X0_50 : FW RX0 50 0 1 false (.int) := ⟨RX0, TX0, 6, tyX0, ci_X0, by decide, inK2 21 (by decide +kernel) rfl, rfl, rfl, fun _ => rfl⟩
theorem fl_X11_362 : FL RX11 362 0 1 := ⟨RX0, TX0, 6, tyX0, ci_X0, by decide, inK2 22 (by decide +kernel) rfl⟩
theorem fw_X11_362 : FW RX11 362 0 1 false (.int) := ⟨RX0, TX0, 6, tyX0, ci_X0, by decide, inK2 22 (by decide +kernel) rfl, rfl, rfl, fun q => by cases q⟩
theorem fl_X0_12 : FL RX0 12 0 2 := ⟨RX0, TX0, 6, tyX0, ci_X0, by decide, inK2 23 (by decide +kernel) rfl⟩
theorem fw_X0_12 : FW RX0 12 0 2 true (.object "HorizonSeam$Land") := ⟨RX0, TX0, 6, tyX0, ci_X0, by decide, inK2 23 (by decide +kernel) rfl, rfl, rfl, fun _ => rfl⟩
theorem fl_X0_18 : FL RX0 18 0 3 := ⟨RX0, TX0, 6, tyX0, ci_X0, by decide, inK2 24 (by decide +kernel) rfl⟩
theorem fw_X0_18 : FW RX0 18 0 3 true (.array .int) := ⟨RX0, TX0, 6, tyX0, ci_X0, by decide, inK2 24 (by decide +kernel) rfl, rfl, rfl, fun _ => rfl⟩
theorem fl_X0_22 : FL RX0 22 0 4 := ⟨RX0, TX0, 6, tyX0, ci_X0, by decide, inK2 25 (by decide +kernel) rfl⟩
theorem fw_X0_22 : FW RX0 22 0 4 true (.array .long) := ⟨RX0, TX0, 6, tyX0, ci_X0, by decide, inK2 25 (by decide +kernel) rfl, rfl, rfl, fun _ => rfl⟩
theorem fl_X0_26 : FL RX0 26 0 5 := ⟨RX0, TX0, 6, tyX0, ci_X0, by decide, inK2 26 (by decide +kernel) rfl⟩
theorem fw_X0_26 : FW RX0 26 0 5 true (.array .long) := ⟨RX0, TX0, 6, tyX0, ci_X0, by decide, inK2 26 (by decide +kernel) rfl, rfl, rfl, fun _ => rfl⟩
theorem fl_X8_9 : FL RX8 9 8 0 := ⟨RX8, TX8, 3, tyX8, ci_X8, by decide, inK2 47 (by decide +kernel) rfl⟩
theorem fw_X8_9 : FW RX8 9 8 0 true (.array .int) := ⟨RX8, TX8, 3, tyX8, ci_X8, by decide, inK2 47 (by decide +kernel) rfl, rfl, rfl, fun _ => rfl⟩
theorem fl_X8_15 : FL RX8 15 8 1 := ⟨RX8, TX8, 3, tyX8, ci_X8, by decide, inK2 48 (by decide +kernel) rfl⟩
theorem fw_X8_15 : FW RX8 15 8 1 true (.array .int) := ⟨RX8, TX8, 3, tyX8, ci_X8, by decide, inK2 48 (by decide +kernel) rfl, rfl, rfl, fun _ => rfl⟩
theorem fl_X8_18 : FL RX8 18 8 2 := ⟨RX8, TX8, 3, tyX8, ci_X8, by decide, inK2 49 (by decide +kernel) rfl⟩
theorem fw_X8_18 : FW RX8 18 8 2 false (.int) := ⟨RX8, TX8, 3, tyX8, ci_X8, by decide, inK2 49 (by decide +kernel) rfl, rfl, rfl, fun _ => rfl⟩
theorem fl_X11_9 : FL RX11 9 10 0 := ⟨RX11, TX11, 17, tyX11, ci_X11, by decide, inK2 67 (by decide +kernel) rfl⟩
theorem fw_X11_9 : FW RX11 9 10 0 true (.array .byte) := ⟨RX11, TX11, 17, tyX11, ci_X11, by decide, inK2 67 (by decide +kernel) rfl, rfl, rfl, fun _ => rfl⟩
theorem fl_X11_13 : FL RX11 13 10 1 := ⟨RX11, TX11, 17, tyX11, ci_X11, by decide, inK2 68 (by decide +kernel) rfl⟩
theorem fw_X11_13 : FW RX11 13 10 1 false (.int) := ⟨RX11, TX11, 17, tyX11, ci_X11, by decide, inK2 68 (by decide +kernel) rfl, rfl, rfl, fun _ => rfl⟩
theorem fl_X11_17 : FL RX11 17 10 2 := ⟨RX11, TX11, 17, tyX11, ci_X11, by decide, inK2 69 (by decide +kernel) rfl⟩
theorem fw_X11_17 : FW RX11 17 10 2 false (.int) := ⟨RX11, TX11, 17, tyX11, ci_X11, by decide, inK2 69 (by decide +kernel) rfl, rfl, rfl, fun _ => rfl⟩
theorem fl_X11_20 : FL RX11 20 10 3 := ⟨RX11, TX11, 17, tyX11, ci_X11, by decide, inK2 70 (by decide +kernel) rfl⟩
theorem fw_X11_20 : FW RX11 20 10 3 false (.int) := ⟨RX11, TX11, 17, tyX11, ci_X11, by decide, inK2 70 (by decide +kernel) rfl, rfl, rfl, fun _ => rfl⟩
theorem fl_X11_23 : FL RX11 23 10 4 := ⟨RX11, TX11, 17, tyX11, ci_X11, by decide, inK2 71 (by decide +kernel) rfl⟩
theorem fw_X11_23 : FW RX11 23 10 4 false (.int) := ⟨RX11, TX11, 17, tyX11, ci_X11, by decide, inK2 71 (by decide +kernel) rfl, rfl, rfl, fun _ => rfl⟩
theorem fl_X11_26 : FL RX11 26 10 5 := ⟨RX11, TX11, 17, tyX11, ci_X11, by decide, inK2 72 (by decide +kernel) rfl⟩
theorem fw_X11_26 : FW RX11 26 10 5 false (.int) := ⟨RX11, TX11, 17, tyX11, ci_X11, by decide, inK2 72 (by decide +kernel) rfl, rfl, rfl, fun _ => rfl⟩
theorem fl_X11_32 : FL RX11 32 10 6 := ⟨RX11, TX11, 17, tyX11, ci_X11, by decide, inK2 73 (by decide +kernel) rfl⟩
theorem fw_X11_32 : FW RX11 32 10 6 false (.object "HorizonSeam$Told") := ⟨RX11, TX11, 17, tyX11, ci_X11, by decide, inK2 73 (by decide +kernel) rfl, rfl, rfl, fun _ => rfl⟩
theorem fl_X11_36 : FL RX11 36 10 7 := ⟨RX11, TX11, 17, tyX11, ci_X11, by decide, inK2 74 (by decide +kernel) rfl⟩
theorem fw_X11_36 : FW RX11 36 10 7 false (.object "HorizonSeam$Told") := ⟨RX11, TX11, 17, tyX11, ci_X11, by decide, inK2 74 (by decide +kernel) rfl, rfl, rfl, fun _ => rfl⟩
theorem fl_X11_42 : FL RX11 42 10 8 := ⟨RX11, TX11, 17, tyX11, ci_X11, by decide, inK2 75 (by decide +kernel) rfl⟩
theorem fw_X11_42 : FW RX11 42 10 8 true (.object "HorizonSeam$Moment") := ⟨RX11, TX11, 17, tyX11, ci_X11, by decide, inK2 75 (by decide +kernel) rfl, rfl, rfl, fun _ => rfl⟩
theorem fl_X11_46 : FL RX11 46 10 9 := ⟨RX11, TX11, 17, tyX11, ci_X11, by decide, inK2 76 (by decide +kernel) rfl⟩
theorem fw_X11_46 : FW RX11 46 10 9 true (.object "HorizonSeam$Moment") := ⟨RX11, TX11, 17, tyX11, ci_X11, by decide, inK2 76 (by decide +kernel) rfl, rfl, rfl, fun _ => rfl⟩
theorem fl_X11_49 : FL RX11 49 10 10 := ⟨RX11, TX11, 17, tyX11, ci_X11, by decide, inK2 77 (by decide +kernel) rfl⟩
theorem fw_X11_49 : FW RX11 49 10 10 false (.boolean) := ⟨RX11, TX11, 17, tyX11, ci_X11, by decide, inK2 77 (by decide +kernel) rfl, rfl, rfl, fun _ => rfl⟩
theorem fl_X11_56 : FL RX11 56 10 11 := ⟨RX11, TX11, 17, tyX11, ci_X11, by decide, inK2 78 (by decide +kernel) rfl⟩
theorem fw_X11_56 : FW RX11 56 10 11 true (.object "HorizonSeam$Land") := ⟨RX11, TX11, 17, tyX11, ci_X11, by decide, inK2 78 (by decide +kernel) rfl, rfl, rfl, fun _ => rfl⟩
theorem fl_X11_60 : FL RX11 60 10 12 := ⟨RX11, TX11, 17, tyX11, ci_X11, by decide, inK2 79 (by decide +kernel) rfl⟩
theorem fw_X11_60 : FW RX11 60 10 12 true (.object "HorizonSeam$Land") := ⟨RX11, TX11, 17, tyX11, ci_X11, by decide, inK2 79 (by decide +kernel) rfl, rfl, rfl, fun _ => rfl⟩
theorem fl_X11_66 : FL RX11 66 10 13 := ⟨RX11, TX11, 17, tyX11, ci_X11, by decide, inK2 80 (by decide +kernel) rfl⟩
theorem fw_X11_66 : FW RX11 66 10 13 true (.object "HorizonSeam$Guess") := ⟨RX11, TX11, 17, tyX11, ci_X11, by decide, inK2 80 (by decide +kernel) rfl, rfl, rfl, fun _ => rfl⟩
theorem fl_X11_70 : FL RX11 70 10 14 := ⟨RX11, TX11, 17, tyX11, ci_X11, by decide, inK2 81 (by decide +kernel) rfl⟩
theorem fw_X11_70 : FW RX11 70 10 14 false (.int) := ⟨RX11, TX11, 17, tyX11, ci_X11, by decide, inK2 81 (by decide +kernel) rfl, rfl, rfl, fun _ => rfl⟩
theorem fl_X11_76 : FL RX11 76 10 15 := ⟨RX11, TX11, 17, tyX11, ci_X11, by decide, inK2 82 (by decide +kernel) rfl⟩
theorem fw_X11_76 : FW RX11 76 10 15 true (.object "HorizonSeam$Sending") := ⟨RX11, TX11, 17, tyX11, ci_X11, by decide, inK2 82 (by decide +kernel) rfl, rfl, rfl, fun _ => rfl⟩
theorem fl_X11_80 : FL RX11 80 10 16 := ⟨RX11, TX11, 17, tyX11, ci_X11, by decide, inK2 83 (by decide +kernel) rfl⟩
theorem fw_X11_80 : FW RX11 80 10 16 true (.array .int) := ⟨RX11, TX11, 17, tyX11, ci_X11, by decide, inK2 83 (by decide +kernel) rfl, rfl, rfl, fun _ => rfl⟩
theorem fl_X5_9 : FL RX5 9 5 0 := ⟨RX5, TX5, 11, tyX5, ci_X5, by decide, inK3 180 (by decide +kernel) rfl⟩
theorem fw_X5_9 : FW RX5 9 5 0 false (.int) := ⟨RX5, TX5, 11, tyX5, ci_X5, by decide, inK3 180 (by decide +kernel) rfl, rfl, rfl, fun _ => rfl⟩
theorem fl_X11_120 : FL RX11 120 5 0 := ⟨RX5, TX5, 11, tyX5, ci_X5, by decide, inK3 181 (by decide +kernel) rfl⟩
theorem fw_X11_120 : FW RX11 120 5 0 false (.int) := ⟨RX5, TX5, 11, tyX5, ci_X5, by decide, inK3 181 (by decide +kernel) rfl, rfl, rfl, fun q => by cases q⟩
theorem fl_X5_15 : FL RX5 15 5 1 := ⟨RX5, TX5, 11, tyX5, ci_X5, by decide, inK3 182 (by decide +kernel) rfl⟩
theorem fw_X5_15 : FW RX5 15 5 1 false (.int) := ⟨RX5, TX5, 11, tyX5, ci_X5, by decide, inK3 182 (by decide +kernel) rfl, rfl, rfl, fun _ => rfl⟩
theorem fl_X11_117 : FL RX11 117 5 1 := ⟨RX5, TX5, 11, tyX5, ci_X5, by decide, inK3 183 (by decide +kernel) rfl⟩
theorem fw_X11_117 : FW RX11 117 5 1 false (.int) := ⟨RX5, TX5, 11, tyX5, ci_X5, by decide, inK3 183 (by decide +kernel) rfl, rfl, rfl, fun q => by cases q⟩
theorem fl_X5_33 : FL RX5 33 5 2 := ⟨RX5, TX5, 11, tyX5, ci_X5, by decide, inK3 184 (by decide +kernel) rfl⟩
theorem fw_X5_33 : FW RX5 33 5 2 true (.array .byte) := ⟨RX5, TX5, 11, tyX5, ci_X5, by decide, inK3 184 (by decide +kernel) rfl, rfl, rfl, fun _ => rfl⟩
theorem fl_X5_43 : FL RX5 43 5 3 := ⟨RX5, TX5, 11, tyX5, ci_X5, by decide, inK3 185 (by decide +kernel) rfl⟩
theorem fw_X5_43 : FW RX5 43 5 3 true (.int) := ⟨RX5, TX5, 11, tyX5, ci_X5, by decide, inK3 185 (by decide +kernel) rfl, rfl, rfl, fun _ => rfl⟩
theorem fl_X5_46 : FL RX5 46 5 4 := ⟨RX5, TX5, 11, tyX5, ci_X5, by decide, inK3 186 (by decide +kernel) rfl⟩
theorem fw_X5_46 : FW RX5 46 5 4 true (.object "HorizonSeam$Told") := ⟨RX5, TX5, 11, tyX5, ci_X5, by decide, inK3 186 (by decide +kernel) rfl, rfl, rfl, fun _ => rfl⟩
theorem fl_X5_50 : FL RX5 50 5 5 := ⟨RX5, TX5, 11, tyX5, ci_X5, by decide, inK3 187 (by decide +kernel) rfl⟩
theorem fw_X5_50 : FW RX5 50 5 5 true (.object "HorizonSeam$Land") := ⟨RX5, TX5, 11, tyX5, ci_X5, by decide, inK3 187 (by decide +kernel) rfl, rfl, rfl, fun _ => rfl⟩
theorem fl_X5_18 : FL RX5 18 5 6 := ⟨RX5, TX5, 11, tyX5, ci_X5, by decide, inK3 188 (by decide +kernel) rfl⟩
theorem fw_X5_18 : FW RX5 18 5 6 false (.int) := ⟨RX5, TX5, 11, tyX5, ci_X5, by decide, inK3 188 (by decide +kernel) rfl, rfl, rfl, fun _ => rfl⟩
theorem fl_X5_21 : FL RX5 21 5 7 := ⟨RX5, TX5, 11, tyX5, ci_X5, by decide, inK3 189 (by decide +kernel) rfl⟩
theorem fw_X5_21 : FW RX5 21 5 7 false (.int) := ⟨RX5, TX5, 11, tyX5, ci_X5, by decide, inK3 189 (by decide +kernel) rfl, rfl, rfl, fun _ => rfl⟩
theorem fl_X5_24 : FL RX5 24 5 8 := ⟨RX5, TX5, 11, tyX5, ci_X5, by decide, inK3 190 (by decide +kernel) rfl⟩
theorem fw_X5_24 : FW RX5 24 5 8 false (.int) := ⟨RX5, TX5, 11, tyX5, ci_X5, by decide, inK3 190 (by decide +kernel) rfl, rfl, rfl, fun _ => rfl⟩
theorem fl_X5_27 : FL RX5 27 5 9 := ⟨RX5, TX5, 11, tyX5, ci_X5, by decide, inK3 191 (by decide +kernel) rfl⟩
theorem fw_X5_27 : FW RX5 27 5 9 false (.int) := ⟨RX5, TX5, 11, tyX5, ci_X5, by decide, inK3 191 (by decide +kernel) rfl, rfl, rfl, fun _ => rfl⟩
theorem fl_X5_30 : FL RX5 30 5 10 := ⟨RX5, TX5, 11, tyX5, ci_X5, by decide, inK3 192 (by decide +kernel) rfl⟩
theorem fw_X5_30 : FW RX5 30 5 10 false (.int) := ⟨RX5, TX5, 11, tyX5, ci_X5, by decide, inK3 192 (by decide +kernel) rfl, rfl, rfl, fun _ => rfl⟩
theorem fl_X12_117 : FL RX12 117 11 0 := ⟨RX12, TX12, 63, tyX12, ci_X12, by decide, inK6 156 (by decide +kernel) rfl⟩
theorem fw_X12_117 : FW RX12 117 11 0 false (.int) := ⟨RX12, TX12, 63, tyX12, ci_X12, by decide, inK6 156 (by decide +kernel) rfl, rfl, rfl, fun _ => rfl⟩
theorem fl_X12_7 : FL RX12 7 11 1 := ⟨RX12, TX12, 63, tyX12, ci_X12, by decide, inK6 157 (by decide +kernel) rfl⟩
theorem fw_X12_7 : FW RX12 7 11 1 false (.int) := ⟨RX12, TX12, 63, tyX12, ci_X12, by decide, inK6 157 (by decide +kernel) rfl, rfl, rfl, fun _ => rfl⟩
theorem fl_X12_284 : FL RX12 284 11 2 := ⟨RX12, TX12, 63, tyX12, ci_X12, by decide, inK6 158 (by decide +kernel) rfl⟩
theorem fw_X12_284 : FW RX12 284 11 2 false (.int) := ⟨RX12, TX12, 63, tyX12, ci_X12, by decide, inK6 158 (by decide +kernel) rfl, rfl, rfl, fun _ => rfl⟩
theorem fl_X12_287 : FL RX12 287 11 3 := ⟨RX12, TX12, 63, tyX12, ci_X12, by decide, inK6 159 (by decide +kernel) rfl⟩
theorem fw_X12_287 : FW RX12 287 11 3 false (.int) := ⟨RX12, TX12, 63, tyX12, ci_X12, by decide, inK6 159 (by decide +kernel) rfl, rfl, rfl, fun _ => rfl⟩
theorem fl_X12_13 : FL RX12 13 11 4 := ⟨RX12, TX12, 63, tyX12, ci_X12, by decide, inK6 160 (by decide +kernel) rfl⟩
theorem fw_X12_13 : FW RX12 13 11 4 false (.int) := ⟨RX12, TX12, 63, tyX12, ci_X12, by decide, inK6 160 (by decide +kernel) rfl, rfl, rfl, fun _ => rfl⟩
theorem fl_X12_16 : FL RX12 16 11 5 := ⟨RX12, TX12, 63, tyX12, ci_X12, by decide, inK6 161 (by decide +kernel) rfl⟩
theorem fw_X12_16 : FW RX12 16 11 5 false (.int) := ⟨RX12, TX12, 63, tyX12, ci_X12, by decide, inK6 161 (by decide +kernel) rfl, rfl, rfl, fun _ => rfl⟩
theorem fl_X12_19 : FL RX12 19 11 6 := ⟨RX12, TX12, 63, tyX12, ci_X12, by decide, inK6 162 (by decide +kernel) rfl⟩
theorem fw_X12_19 : FW RX12 19 11 6 false (.int) := ⟨RX12, TX12, 63, tyX12, ci_X12, by decide, inK6 162 (by decide +kernel) rfl, rfl, rfl, fun _ => rfl⟩
theorem fl_X12_22 : FL RX12 22 11 7 := ⟨RX12, TX12, 63, tyX12, ci_X12, by decide, inK6 163 (by decide +kernel) rfl⟩
theorem fw_X12_22 : FW RX12 22 11 7 true (.array .int) := ⟨RX12, TX12, 63, tyX12, ci_X12, by decide, inK6 163 (by decide +kernel) rfl, rfl, rfl, fun _ => rfl⟩
theorem fl_X12_26 : FL RX12 26 11 8 := ⟨RX12, TX12, 63, tyX12, ci_X12, by decide, inK6 164 (by decide +kernel) rfl⟩
theorem fw_X12_26 : FW RX12 26 11 8 true (.array .int) := ⟨RX12, TX12, 63, tyX12, ci_X12, by decide, inK6 164 (by decide +kernel) rfl, rfl, rfl, fun _ => rfl⟩
theorem fl_X12_29 : FL RX12 29 11 9 := ⟨RX12, TX12, 63, tyX12, ci_X12, by decide, inK6 165 (by decide +kernel) rfl⟩
theorem fw_X12_29 : FW RX12 29 11 9 true (.array .int) := ⟨RX12, TX12, 63, tyX12, ci_X12, by decide, inK6 165 (by decide +kernel) rfl, rfl, rfl, fun _ => rfl⟩
theorem fl_X12_32 : FL RX12 32 11 10 := ⟨RX12, TX12, 63, tyX12, ci_X12, by decide, inK6 166 (by decide +kernel) rfl⟩
theorem fw_X12_32 : FW RX12 32 11 10 true (.array .int) := ⟨RX12, TX12, 63, tyX12, ci_X12, by decide, inK6 166 (by decide +kernel) rfl, rfl, rfl, fun _ => rfl⟩
theorem fl_X12_35 : FL RX12 35 11 11 := ⟨RX12, TX12, 63, tyX12, ci_X12, by decide, inK6 167 (by decide +kernel) rfl⟩
theorem fw_X12_35 : FW RX12 35 11 11 true (.array .int) := ⟨RX12, TX12, 63, tyX12, ci_X12, by decide, inK6 167 (by decide +kernel) rfl, rfl, rfl, fun _ => rfl⟩
theorem fl_X12_120 : FL RX12 120 11 12 := ⟨RX12, TX12, 63, tyX12, ci_X12, by decide, inK6 168 (by decide +kernel) rfl⟩
theorem fw_X12_120 : FW RX12 120 11 12 false (.int) := ⟨RX12, TX12, 63, tyX12, ci_X12, by decide, inK6 168 (by decide +kernel) rfl, rfl, rfl, fun _ => rfl⟩
theorem fl_X12_173 : FL RX12 173 11 13 := ⟨RX12, TX12, 63, tyX12, ci_X12, by decide, inK6 169 (by decide +kernel) rfl⟩
theorem fw_X12_173 : FW RX12 173 11 13 false (.int) := ⟨RX12, TX12, 63, tyX12, ci_X12, by decide, inK6 169 (by decide +kernel) rfl, rfl, rfl, fun _ => rfl⟩
theorem fl_X12_38 : FL RX12 38 11 14 := ⟨RX12, TX12, 63, tyX12, ci_X12, by decide, inK6 170 (by decide +kernel) rfl⟩
theorem fw_X12_38 : FW RX12 38 11 14 false (.int) := ⟨RX12, TX12, 63, tyX12, ci_X12, by decide, inK6 170 (by decide +kernel) rfl, rfl, rfl, fun _ => rfl⟩
theorem fl_X12_41 : FL RX12 41 11 15 := ⟨RX12, TX12, 63, tyX12, ci_X12, by decide, inK6 171 (by decide +kernel) rfl⟩
theorem fw_X12_41 : FW RX12 41 11 15 true (.array .int) := ⟨RX12, TX12, 63, tyX12, ci_X12, by decide, inK6 171 (by decide +kernel) rfl, rfl, rfl, fun _ => rfl⟩
theorem fl_X12_127 : FL RX12 127 11 16 := ⟨RX12, TX12, 63, tyX12, ci_X12, by decide, inK6 172 (by decide +kernel) rfl⟩
theorem fw_X12_127 : FW RX12 127 11 16 false (.int) := ⟨RX12, TX12, 63, tyX12, ci_X12, by decide, inK6 172 (by decide +kernel) rfl, rfl, rfl, fun _ => rfl⟩
theorem fl_X12_130 : FL RX12 130 11 17 := ⟨RX12, TX12, 63, tyX12, ci_X12, by decide, inK6 173 (by decide +kernel) rfl⟩
theorem fw_X12_130 : FW RX12 130 11 17 false (.int) := ⟨RX12, TX12, 63, tyX12, ci_X12, by decide, inK6 173 (by decide +kernel) rfl, rfl, rfl, fun _ => rfl⟩
theorem fl_X12_150 : FL RX12 150 11 18 := ⟨RX12, TX12, 63, tyX12, ci_X12, by decide, inK6 174 (by decide +kernel) rfl⟩
theorem fw_X12_150 : FW RX12 150 11 18 false (.int) := ⟨RX12, TX12, 63, tyX12, ci_X12, by decide, inK6 174 (by decide +kernel) rfl, rfl, rfl, fun _ => rfl⟩
theorem fl_X12_137 : FL RX12 137 11 19 := ⟨RX12, TX12, 63, tyX12, ci_X12, by decide, inK6 175 (by decide +kernel) rfl⟩
theorem fw_X12_137 : FW RX12 137 11 19 false (.int) := ⟨RX12, TX12, 63, tyX12, ci_X12, by decide, inK6 175 (by decide +kernel) rfl, rfl, rfl, fun _ => rfl⟩
theorem fl_X12_160 : FL RX12 160 11 20 := ⟨RX12, TX12, 63, tyX12, ci_X12, by decide, inK6 176 (by decide +kernel) rfl⟩
theorem fw_X12_160 : FW RX12 160 11 20 false (.int) := ⟨RX12, TX12, 63, tyX12, ci_X12, by decide, inK6 176 (by decide +kernel) rfl, rfl, rfl, fun _ => rfl⟩
theorem fl_X12_144 : FL RX12 144 11 21 := ⟨RX12, TX12, 63, tyX12, ci_X12, by decide, inK6 177 (by decide +kernel) rfl⟩
theorem fw_X12_144 : FW RX12 144 11 21 false (.int) := ⟨RX12, TX12, 63, tyX12, ci_X12, by decide, inK6 177 (by decide +kernel) rfl, rfl, rfl, fun _ => rfl⟩
theorem fl_X12_147 : FL RX12 147 11 22 := ⟨RX12, TX12, 63, tyX12, ci_X12, by decide, inK6 178 (by decide +kernel) rfl⟩
theorem fw_X12_147 : FW RX12 147 11 22 false (.int) := ⟨RX12, TX12, 63, tyX12, ci_X12, by decide, inK6 178 (by decide +kernel) rfl, rfl, rfl, fun _ => rfl⟩
theorem fl_X12_140 : FL RX12 140 11 23 := ⟨RX12, TX12, 63, tyX12, ci_X12, by decide, inK6 179 (by decide +kernel) rfl⟩
theorem fw_X12_140 : FW RX12 140 11 23 false (.long) := ⟨RX12, TX12, 63, tyX12, ci_X12, by decide, inK6 179 (by decide +kernel) rfl, rfl, rfl, fun _ => rfl⟩
theorem fl_X12_233 : FL RX12 233 11 24 := ⟨RX12, TX12, 63, tyX12, ci_X12, by decide, inK6 180 (by decide +kernel) rfl⟩
theorem fw_X12_233 : FW RX12 233 11 24 false (.int) := ⟨RX12, TX12, 63, tyX12, ci_X12, by decide, inK6 180 (by decide +kernel) rfl, rfl, rfl, fun _ => rfl⟩
theorem fl_X12_240 : FL RX12 240 11 25 := ⟨RX12, TX12, 63, tyX12, ci_X12, by decide, inK6 181 (by decide +kernel) rfl⟩
theorem fw_X12_240 : FW RX12 240 11 25 false (.int) := ⟨RX12, TX12, 63, tyX12, ci_X12, by decide, inK6 181 (by decide +kernel) rfl, rfl, rfl, fun _ => rfl⟩
theorem fl_X12_243 : FL RX12 243 11 26 := ⟨RX12, TX12, 63, tyX12, ci_X12, by decide, inK6 182 (by decide +kernel) rfl⟩
theorem fw_X12_243 : FW RX12 243 11 26 false (.int) := ⟨RX12, TX12, 63, tyX12, ci_X12, by decide, inK6 182 (by decide +kernel) rfl, rfl, rfl, fun _ => rfl⟩
theorem fl_X12_262 : FL RX12 262 11 27 := ⟨RX12, TX12, 63, tyX12, ci_X12, by decide, inK6 183 (by decide +kernel) rfl⟩
theorem fw_X12_262 : FW RX12 262 11 27 false (.int) := ⟨RX12, TX12, 63, tyX12, ci_X12, by decide, inK6 183 (by decide +kernel) rfl, rfl, rfl, fun _ => rfl⟩
theorem fl_X12_265 : FL RX12 265 11 28 := ⟨RX12, TX12, 63, tyX12, ci_X12, by decide, inK6 184 (by decide +kernel) rfl⟩
theorem fw_X12_265 : FW RX12 265 11 28 false (.int) := ⟨RX12, TX12, 63, tyX12, ci_X12, by decide, inK6 184 (by decide +kernel) rfl, rfl, rfl, fun _ => rfl⟩
theorem fl_X12_271 : FL RX12 271 11 29 := ⟨RX12, TX12, 63, tyX12, ci_X12, by decide, inK6 185 (by decide +kernel) rfl⟩
theorem fw_X12_271 : FW RX12 271 11 29 false (.int) := ⟨RX12, TX12, 63, tyX12, ci_X12, by decide, inK6 185 (by decide +kernel) rfl, rfl, rfl, fun _ => rfl⟩
theorem fl_X12_186 : FL RX12 186 11 30 := ⟨RX12, TX12, 63, tyX12, ci_X12, by decide, inK6 186 (by decide +kernel) rfl⟩
theorem fw_X12_186 : FW RX12 186 11 30 false (.int) := ⟨RX12, TX12, 63, tyX12, ci_X12, by decide, inK6 186 (by decide +kernel) rfl, rfl, rfl, fun _ => rfl⟩
theorem fl_X12_189 : FL RX12 189 11 31 := ⟨RX12, TX12, 63, tyX12, ci_X12, by decide, inK6 187 (by decide +kernel) rfl⟩
theorem fw_X12_189 : FW RX12 189 11 31 false (.int) := ⟨RX12, TX12, 63, tyX12, ci_X12, by decide, inK6 187 (by decide +kernel) rfl, rfl, rfl, fun _ => rfl⟩
theorem fl_X12_205 : FL RX12 205 11 32 := ⟨RX12, TX12, 63, tyX12, ci_X12, by decide, inK6 188 (by decide +kernel) rfl⟩
theorem fw_X12_205 : FW RX12 205 11 32 false (.int) := ⟨RX12, TX12, 63, tyX12, ci_X12, by decide, inK6 188 (by decide +kernel) rfl, rfl, rfl, fun _ => rfl⟩
theorem fl_X12_44 : FL RX12 44 11 33 := ⟨RX12, TX12, 63, tyX12, ci_X12, by decide, inK6 189 (by decide +kernel) rfl⟩
theorem fw_X12_44 : FW RX12 44 11 33 true (.array .int) := ⟨RX12, TX12, 63, tyX12, ci_X12, by decide, inK6 189 (by decide +kernel) rfl, rfl, rfl, fun _ => rfl⟩
theorem fl_X12_47 : FL RX12 47 11 34 := ⟨RX12, TX12, 63, tyX12, ci_X12, by decide, inK6 190 (by decide +kernel) rfl⟩
theorem fw_X12_47 : FW RX12 47 11 34 true (.array .int) := ⟨RX12, TX12, 63, tyX12, ci_X12, by decide, inK6 190 (by decide +kernel) rfl, rfl, rfl, fun _ => rfl⟩
theorem fl_X12_50 : FL RX12 50 11 35 := ⟨RX12, TX12, 63, tyX12, ci_X12, by decide, inK6 191 (by decide +kernel) rfl⟩
theorem fw_X12_50 : FW RX12 50 11 35 true (.array .int) := ⟨RX12, TX12, 63, tyX12, ci_X12, by decide, inK6 191 (by decide +kernel) rfl, rfl, rfl, fun _ => rfl⟩
theorem fl_X12_53 : FL RX12 53 11 36 := ⟨RX12, TX12, 63, tyX12, ci_X12, by decide, inK6 192 (by decide +kernel) rfl⟩
theorem fw_X12_53 : FW RX12 53 11 36 true (.array .int) := ⟨RX12, TX12, 63, tyX12, ci_X12, by decide, inK6 192 (by decide +kernel) rfl, rfl, rfl, fun _ => rfl⟩
theorem fl_X12_56 : FL RX12 56 11 37 := ⟨RX12, TX12, 63, tyX12, ci_X12, by decide, inK6 193 (by decide +kernel) rfl⟩
theorem fw_X12_56 : FW RX12 56 11 37 true (.array .int) := ⟨RX12, TX12, 63, tyX12, ci_X12, by decide, inK6 193 (by decide +kernel) rfl, rfl, rfl, fun _ => rfl⟩
theorem fl_X12_59 : FL RX12 59 11 38 := ⟨RX12, TX12, 63, tyX12, ci_X12, by decide, inK6 194 (by decide +kernel) rfl⟩
theorem fw_X12_59 : FW RX12 59 11 38 true (.array .int) := ⟨RX12, TX12, 63, tyX12, ci_X12, by decide, inK6 194 (by decide +kernel) rfl, rfl, rfl, fun _ => rfl⟩
theorem fl_X12_62 : FL RX12 62 11 39 := ⟨RX12, TX12, 63, tyX12, ci_X12, by decide, inK6 195 (by decide +kernel) rfl⟩
theorem fw_X12_62 : FW RX12 62 11 39 true (.array .boolean) := ⟨RX12, TX12, 63, tyX12, ci_X12, by decide, inK6 195 (by decide +kernel) rfl, rfl, rfl, fun _ => rfl⟩
theorem fl_X12_66 : FL RX12 66 11 40 := ⟨RX12, TX12, 63, tyX12, ci_X12, by decide, inK6 196 (by decide +kernel) rfl⟩
theorem fw_X12_66 : FW RX12 66 11 40 true (.array .int) := ⟨RX12, TX12, 63, tyX12, ci_X12, by decide, inK6 196 (by decide +kernel) rfl, rfl, rfl, fun _ => rfl⟩
theorem fl_X12_69 : FL RX12 69 11 41 := ⟨RX12, TX12, 63, tyX12, ci_X12, by decide, inK6 197 (by decide +kernel) rfl⟩
theorem fw_X12_69 : FW RX12 69 11 41 true (.array .int) := ⟨RX12, TX12, 63, tyX12, ci_X12, by decide, inK6 197 (by decide +kernel) rfl, rfl, rfl, fun _ => rfl⟩
theorem fl_X12_294 : FL RX12 294 11 42 := ⟨RX12, TX12, 63, tyX12, ci_X12, by decide, inK6 198 (by decide +kernel) rfl⟩
theorem fw_X12_294 : FW RX12 294 11 42 false (.int) := ⟨RX12, TX12, 63, tyX12, ci_X12, by decide, inK6 198 (by decide +kernel) rfl, rfl, rfl, fun _ => rfl⟩
theorem fl_X12_72 : FL RX12 72 11 43 := ⟨RX12, TX12, 63, tyX12, ci_X12, by decide, inK6 199 (by decide +kernel) rfl⟩
theorem fw_X12_72 : FW RX12 72 11 43 true (.array .int) := ⟨RX12, TX12, 63, tyX12, ci_X12, by decide, inK6 199 (by decide +kernel) rfl, rfl, rfl, fun _ => rfl⟩
theorem fl_X12_75 : FL RX12 75 11 44 := ⟨RX12, TX12, 63, tyX12, ci_X12, by decide, inK6 200 (by decide +kernel) rfl⟩
theorem fw_X12_75 : FW RX12 75 11 44 true (.array .int) := ⟨RX12, TX12, 63, tyX12, ci_X12, by decide, inK6 200 (by decide +kernel) rfl, rfl, rfl, fun _ => rfl⟩
theorem fl_X12_78 : FL RX12 78 11 45 := ⟨RX12, TX12, 63, tyX12, ci_X12, by decide, inK6 201 (by decide +kernel) rfl⟩
theorem fw_X12_78 : FW RX12 78 11 45 true (.array .int) := ⟨RX12, TX12, 63, tyX12, ci_X12, by decide, inK6 201 (by decide +kernel) rfl, rfl, rfl, fun _ => rfl⟩
theorem fl_X12_81 : FL RX12 81 11 46 := ⟨RX12, TX12, 63, tyX12, ci_X12, by decide, inK6 202 (by decide +kernel) rfl⟩
theorem fw_X12_81 : FW RX12 81 11 46 true (.array .int) := ⟨RX12, TX12, 63, tyX12, ci_X12, by decide, inK6 202 (by decide +kernel) rfl, rfl, rfl, fun _ => rfl⟩
theorem fl_X12_84 : FL RX12 84 11 47 := ⟨RX12, TX12, 63, tyX12, ci_X12, by decide, inK6 203 (by decide +kernel) rfl⟩
theorem fw_X12_84 : FW RX12 84 11 47 true (.array .int) := ⟨RX12, TX12, 63, tyX12, ci_X12, by decide, inK6 203 (by decide +kernel) rfl, rfl, rfl, fun _ => rfl⟩
theorem fl_X12_87 : FL RX12 87 11 48 := ⟨RX12, TX12, 63, tyX12, ci_X12, by decide, inK6 204 (by decide +kernel) rfl⟩
theorem fw_X12_87 : FW RX12 87 11 48 true (.array .int) := ⟨RX12, TX12, 63, tyX12, ci_X12, by decide, inK6 204 (by decide +kernel) rfl, rfl, rfl, fun _ => rfl⟩
theorem fl_X12_90 : FL RX12 90 11 49 := ⟨RX12, TX12, 63, tyX12, ci_X12, by decide, inK6 205 (by decide +kernel) rfl⟩
theorem fw_X12_90 : FW RX12 90 11 49 true (.array .int) := ⟨RX12, TX12, 63, tyX12, ci_X12, by decide, inK6 205 (by decide +kernel) rfl, rfl, rfl, fun _ => rfl⟩
theorem fl_X12_93 : FL RX12 93 11 50 := ⟨RX12, TX12, 63, tyX12, ci_X12, by decide, inK6 206 (by decide +kernel) rfl⟩
theorem fw_X12_93 : FW RX12 93 11 50 true (.array .int) := ⟨RX12, TX12, 63, tyX12, ci_X12, by decide, inK6 206 (by decide +kernel) rfl, rfl, rfl, fun _ => rfl⟩
theorem fl_X12_297 : FL RX12 297 11 51 := ⟨RX12, TX12, 63, tyX12, ci_X12, by decide, inK6 207 (by decide +kernel) rfl⟩
theorem fw_X12_297 : FW RX12 297 11 51 false (.int) := ⟨RX12, TX12, 63, tyX12, ci_X12, by decide, inK6 207 (by decide +kernel) rfl, rfl, rfl, fun _ => rfl⟩
theorem fl_X12_96 : FL RX12 96 11 52 := ⟨RX12, TX12, 63, tyX12, ci_X12, by decide, inK6 208 (by decide +kernel) rfl⟩
theorem fw_X12_96 : FW RX12 96 11 52 true (.array .int) := ⟨RX12, TX12, 63, tyX12, ci_X12, by decide, inK6 208 (by decide +kernel) rfl, rfl, rfl, fun _ => rfl⟩
theorem fl_X12_99 : FL RX12 99 11 53 := ⟨RX12, TX12, 63, tyX12, ci_X12, by decide, inK6 209 (by decide +kernel) rfl⟩
theorem fw_X12_99 : FW RX12 99 11 53 true (.array .int) := ⟨RX12, TX12, 63, tyX12, ci_X12, by decide, inK6 209 (by decide +kernel) rfl, rfl, rfl, fun _ => rfl⟩
theorem fl_X12_102 : FL RX12 102 11 54 := ⟨RX12, TX12, 63, tyX12, ci_X12, by decide, inK6 210 (by decide +kernel) rfl⟩
theorem fw_X12_102 : FW RX12 102 11 54 true (.array .int) := ⟨RX12, TX12, 63, tyX12, ci_X12, by decide, inK6 210 (by decide +kernel) rfl, rfl, rfl, fun _ => rfl⟩
theorem fl_X12_433 : FL RX12 433 11 55 := ⟨RX12, TX12, 63, tyX12, ci_X12, by decide, inK6 211 (by decide +kernel) rfl⟩
theorem fw_X12_433 : FW RX12 433 11 55 false (.int) := ⟨RX12, TX12, 63, tyX12, ci_X12, by decide, inK6 211 (by decide +kernel) rfl, rfl, rfl, fun _ => rfl⟩
theorem fl_X12_105 : FL RX12 105 11 56 := ⟨RX12, TX12, 63, tyX12, ci_X12, by decide, inK6 212 (by decide +kernel) rfl⟩
theorem fw_X12_105 : FW RX12 105 11 56 true (.array .int) := ⟨RX12, TX12, 63, tyX12, ci_X12, by decide, inK6 212 (by decide +kernel) rfl, rfl, rfl, fun _ => rfl⟩
theorem fl_X12_300 : FL RX12 300 11 57 := ⟨RX12, TX12, 63, tyX12, ci_X12, by decide, inK6 213 (by decide +kernel) rfl⟩
theorem fw_X12_300 : FW RX12 300 11 57 false (.boolean) := ⟨RX12, TX12, 63, tyX12, ci_X12, by decide, inK6 213 (by decide +kernel) rfl, rfl, rfl, fun _ => rfl⟩
theorem fl_X12_443 : FL RX12 443 11 58 := ⟨RX12, TX12, 63, tyX12, ci_X12, by decide, inK6 214 (by decide +kernel) rfl⟩
theorem fw_X12_443 : FW RX12 443 11 58 false (.int) := ⟨RX12, TX12, 63, tyX12, ci_X12, by decide, inK6 214 (by decide +kernel) rfl, rfl, rfl, fun _ => rfl⟩
theorem fl_X12_446 : FL RX12 446 11 59 := ⟨RX12, TX12, 63, tyX12, ci_X12, by decide, inK6 215 (by decide +kernel) rfl⟩
theorem fw_X12_446 : FW RX12 446 11 59 false (.int) := ⟨RX12, TX12, 63, tyX12, ci_X12, by decide, inK6 215 (by decide +kernel) rfl, rfl, rfl, fun _ => rfl⟩
theorem fl_X12_108 : FL RX12 108 11 60 := ⟨RX12, TX12, 63, tyX12, ci_X12, by decide, inK6 216 (by decide +kernel) rfl⟩
theorem fw_X12_108 : FW RX12 108 11 60 true (.array .int) := ⟨RX12, TX12, 63, tyX12, ci_X12, by decide, inK6 216 (by decide +kernel) rfl, rfl, rfl, fun _ => rfl⟩
theorem fl_X12_111 : FL RX12 111 11 61 := ⟨RX12, TX12, 63, tyX12, ci_X12, by decide, inK6 217 (by decide +kernel) rfl⟩
theorem fw_X12_111 : FW RX12 111 11 61 true (.array .int) := ⟨RX12, TX12, 63, tyX12, ci_X12, by decide, inK6 217 (by decide +kernel) rfl, rfl, rfl, fun _ => rfl⟩
theorem fl_X12_114 : FL RX12 114 11 62 := ⟨RX12, TX12, 63, tyX12, ci_X12, by decide, inK6 218 (by decide +kernel) rfl⟩
theorem fw_X12_114 : FW RX12 114 11 62 true (.array .int) := ⟨RX12, TX12, 63, tyX12, ci_X12, by decide, inK6 218 (by decide +kernel) rfl, rfl, rfl, fun _ => rfl⟩
theorem wl_X5_82 : Cond.fieldLink RX5 82 "HorizonSeam$Word" "STRETCH" "LHorizonSeam$Word;" ∈ lwG := inK3 236 (by decide +kernel) rfl
theorem wl_X5_93 : Cond.fieldLink RX5 93 "HorizonSeam$Word" "WOMAN" "LHorizonSeam$Word;" ∈ lwG := inK4 75 (by decide +kernel) rfl
theorem wl_X5_99 : Cond.fieldLink RX5 99 "HorizonSeam$Word" "KNOTS" "LHorizonSeam$Word;" ∈ lwG := inK4 89 (by decide +kernel) rfl
theorem wl_X5_105 : Cond.fieldLink RX5 105 "HorizonSeam$Word" "WEEK" "LHorizonSeam$Word;" ∈ lwG := inK4 103 (by decide +kernel) rfl
theorem wl_X5_111 : Cond.fieldLink RX5 111 "HorizonSeam$Word" "FRAYS" "LHorizonSeam$Word;" ∈ lwG := inK4 109 (by decide +kernel) rfl
theorem wl_X10_51 : Cond.fieldLink RX10 51 "HorizonSeam$Word" "OTHER" "LHorizonSeam$Word;" ∈ lwG := inK4 137 (by decide +kernel) rfl
theorem wl_X5_218 : Cond.fieldLink RX5 218 "HorizonSeam$Word" "NOT" "LHorizonSeam$Word;" ∈ lwG := inK4 147 (by decide +kernel) rfl
theorem wl_X5_221 : Cond.fieldLink RX5 221 "HorizonSeam$Word" "OR" "LHorizonSeam$Word;" ∈ lwG := inK4 153 (by decide +kernel) rfl
theorem wl_X5_224 : Cond.fieldLink RX5 224 "HorizonSeam$Word" "AND" "LHorizonSeam$Word;" ∈ lwG := inK4 155 (by decide +kernel) rfl
theorem wl_X5_124 : Cond.fieldLink RX5 124 "HorizonSeam$Word" "PULLS" "LHorizonSeam$Word;" ∈ lwG := inK4 161 (by decide +kernel) rfl
theorem mk_X11_init : MK yX11_init cX11_init 1 none 0 := ⟨inK1 32 rfl rfl, inK1 1 (by decide +kernel) rfl, by decide +kernel, by decide⟩
theorem mk_X9_init : MK yX9_init cX9_init 1 none 0 := ⟨inK1 40 rfl rfl, inK1 2 (by decide +kernel) rfl, by decide +kernel, by decide⟩
theorem mk_X1_init : MK yX1_init cX1_init 1 none 0 := ⟨inK1 46 rfl rfl, inK1 3 (by decide +kernel) rfl, by decide +kernel, by decide⟩
theorem mk_X6_init : MK yX6_init cX6_init 1 none 0 := ⟨inK1 78 rfl rfl, inK1 4 (by decide +kernel) rfl, by decide +kernel, by decide⟩
theorem mk_X3_init : MK yX3_init cX3_init 1 none 0 := ⟨inK1 158 rfl rfl, inK1 5 (by decide +kernel) rfl, by decide +kernel, by decide⟩
theorem mk_X2_init : MK yX2_init cX2_init 1 none 0 := ⟨inK1 164 rfl rfl, inK1 6 (by decide +kernel) rfl, by decide +kernel, by decide⟩
theorem mk_X4_init : MK yX4_init cX4_init 1 none 0 := ⟨inK1 201 rfl rfl, inK1 7 (by decide +kernel) rfl, by decide +kernel, by decide⟩
theorem mk_X7_init : MK yX7_init cX7_init 1 none 0 := ⟨inK1 218 rfl rfl, inK1 8 (by decide +kernel) rfl, by decide +kernel, by decide⟩
theorem mk_X0_init : MK yX0_init cX0_init 1 none 0 := ⟨inK2 15 rfl rfl, inK1 9 (by decide +kernel) rfl, by decide +kernel, by decide⟩
theorem mk_X8_init : MK yX8_init cX8_init 1 none 0 := ⟨inK2 45 rfl rfl, inK1 10 (by decide +kernel) rfl, by decide +kernel, by decide⟩
theorem mk_X11_fillUp : MK yX11_fillUp cX11_fillUp 3 none 2 := ⟨inK2 59 rfl rfl, inK1 1 (by decide +kernel) rfl, by decide +kernel, by decide⟩
theorem mk_X2_putStretch : MK yX2_putStretch cX2_putStretch 5 none 4 := ⟨inK2 63 rfl rfl, inK1 6 (by decide +kernel) rfl, by decide +kernel, by decide⟩
theorem mk_J9_max_7cf53 : MK yJ9_max_7cf53 cJ9_max_7cf53 2 (some (.int)) 2 := ⟨inK2 66 rfl rfl, inK1 11 (by decide +kernel) rfl, by decide +kernel, by decide⟩
theorem mk_X11_feed : MK yX11_feed cX11_feed 6 (some (.int)) 5 := ⟨inK2 122 rfl rfl, inK1 1 (by decide +kernel) rfl, by decide +kernel, by decide⟩
theorem mk_X11_putBytes : MK yX11_putBytes cX11_putBytes 3 none 1 := ⟨inK2 126 rfl rfl, inK1 1 (by decide +kernel) rfl, by decide +kernel, by decide⟩
theorem mk_X11_fault : MK yX11_fault cX11_fault 1 (some (.int)) 0 := ⟨inK2 130 rfl rfl, inK1 1 (by decide +kernel) rfl, by decide +kernel, by decide⟩
theorem mk_X11_days : MK yX11_days cX11_days 2 (some (.int)) 1 := ⟨inK2 134 rfl rfl, inK1 1 (by decide +kernel) rfl, by decide +kernel, by decide⟩
theorem mk_X11_refuseAct : MK yX11_refuseAct cX11_refuseAct 1 (some (.int)) 0 := ⟨inK2 138 rfl rfl, inK1 1 (by decide +kernel) rfl, by decide +kernel, by decide⟩
theorem mk_X4_keep : MK yX4_keep cX4_keep 2 none 1 := ⟨inK2 142 rfl rfl, inK1 7 (by decide +kernel) rfl, by decide +kernel, by decide⟩
theorem mk_X4_placeOf : MK yX4_placeOf cX4_placeOf 2 (some (.int)) 1 := ⟨inK2 146 rfl rfl, inK1 7 (by decide +kernel) rfl, by decide +kernel, by decide⟩
theorem mk_X2_writeTo : MK yX2_writeTo cX2_writeTo 4 none 2 := ⟨inK2 150 rfl rfl, inK1 6 (by decide +kernel) rfl, by decide +kernel, by decide⟩
theorem mk_X2_passDays : MK yX2_passDays cX2_passDays 4 none 2 := ⟨inK2 157 rfl rfl, inK1 6 (by decide +kernel) rfl, by decide +kernel, by decide⟩
theorem mk_X2_passDay : MK yX2_passDay cX2_passDay 3 none 1 := ⟨inK2 161 rfl rfl, inK1 6 (by decide +kernel) rfl, by decide +kernel, by decide⟩
theorem mk_X2_isOpen : MK yX2_isOpen cX2_isOpen 2 (some (.boolean)) 1 := ⟨inK2 165 rfl rfl, inK1 6 (by decide +kernel) rfl, by decide +kernel, by decide⟩
theorem mk_X2_pullsBy : MK yX2_pullsBy cX2_pullsBy 4 (some (.int)) 2 := ⟨inK2 169 rfl rfl, inK1 6 (by decide +kernel) rfl, by decide +kernel, by decide⟩
theorem mk_X9_worthOf : MK yX9_worthOf cX9_worthOf 7 (some (.int)) 3 := ⟨inK2 173 rfl rfl, inK1 2 (by decide +kernel) rfl, by decide +kernel, by decide⟩
theorem mk_X2_valueOf : MK yX2_valueOf cX2_valueOf 4 (some (.int)) 3 := ⟨inK2 177 rfl rfl, inK1 6 (by decide +kernel) rfl, by decide +kernel, by decide⟩
theorem mk_X2_besideOf : MK yX2_besideOf cX2_besideOf 4 (some (.int)) 2 := ⟨inK2 181 rfl rfl, inK1 6 (by decide +kernel) rfl, by decide +kernel, by decide⟩
theorem mk_X2_womenBits : MK yX2_womenBits cX2_womenBits 5 (some (.int)) 2 := ⟨inK2 185 rfl rfl, inK1 6 (by decide +kernel) rfl, by decide +kernel, by decide⟩
theorem mk_J6_bitCount_0f7a4 : MK yJ6_bitCount_0f7a4 cJ6_bitCount_0f7a4 1 (some (.int)) 1 := ⟨inK2 188 rfl rfl, inK1 26 (by decide +kernel) rfl, by decide +kernel, by decide⟩
theorem mk_X9_join : MK yX9_join cX9_join 3 (some (.int)) 3 := ⟨inK2 194 rfl rfl, inK1 2 (by decide +kernel) rfl, by decide +kernel, by decide⟩
theorem mk_X11_within : MK yX11_within cX11_within 3 (some (.int)) 3 := ⟨inK2 197 rfl rfl, inK1 1 (by decide +kernel) rfl, by decide +kernel, by decide⟩
theorem mk_J9_min_7cf53 : MK yJ9_min_7cf53 cJ9_min_7cf53 2 (some (.int)) 2 := ⟨inK2 200 rfl rfl, inK1 11 (by decide +kernel) rfl, by decide +kernel, by decide⟩
theorem mk_X2_fraysBy : MK yX2_fraysBy cX2_fraysBy 4 (some (.int)) 2 := ⟨inK2 204 rfl rfl, inK1 6 (by decide +kernel) rfl, by decide +kernel, by decide⟩
theorem mk_X2_fraysUntold : MK yX2_fraysUntold cX2_fraysUntold 3 (some (.int)) 1 := ⟨inK2 208 rfl rfl, inK1 6 (by decide +kernel) rfl, by decide +kernel, by decide⟩
theorem mk_X2_wear : MK yX2_wear cX2_wear 5 none 3 := ⟨inK2 212 rfl rfl, inK1 6 (by decide +kernel) rfl, by decide +kernel, by decide⟩
theorem mk_X9_ahead : MK yX9_ahead cX9_ahead 2 (some (.int)) 1 := ⟨inK2 217 rfl rfl, inK1 2 (by decide +kernel) rfl, by decide +kernel, by decide⟩
theorem mk_X2_strainIfClosed : MK yX2_strainIfClosed cX2_strainIfClosed 3 none 2 := ⟨inK2 221 rfl rfl, inK1 6 (by decide +kernel) rfl, by decide +kernel, by decide⟩
theorem mk_X2_addStrain : MK yX2_addStrain cX2_addStrain 3 none 2 := ⟨inK2 225 rfl rfl, inK1 6 (by decide +kernel) rfl, by decide +kernel, by decide⟩
theorem mk_X9_after : MK yX9_after cX9_after 2 (some (.int)) 1 := ⟨inK2 230 rfl rfl, inK1 2 (by decide +kernel) rfl, by decide +kernel, by decide⟩
theorem mk_X9_isThursday : MK yX9_isThursday cX9_isThursday 2 (some (.boolean)) 1 := ⟨inK2 234 rfl rfl, inK1 2 (by decide +kernel) rfl, by decide +kernel, by decide⟩
theorem mk_X2_mendAll : MK yX2_mendAll cX2_mendAll 3 none 1 := ⟨inK2 238 rfl rfl, inK1 6 (by decide +kernel) rfl, by decide +kernel, by decide⟩
theorem mk_X2_mendBy : MK yX2_mendBy cX2_mendBy 4 none 2 := ⟨inK3 2 rfl rfl, inK1 6 (by decide +kernel) rfl, by decide +kernel, by decide⟩
theorem mk_X2_goOn : MK yX2_goOn cX2_goOn 3 none 2 := ⟨inK3 6 rfl rfl, inK1 6 (by decide +kernel) rfl, by decide +kernel, by decide⟩
theorem mk_X11_undo : MK yX11_undo cX11_undo 1 (some (.int)) 0 := ⟨inK3 10 rfl rfl, inK1 1 (by decide +kernel) rfl, by decide +kernel, by decide⟩
theorem mk_X4_takeBack : MK yX4_takeBack cX4_takeBack 2 none 1 := ⟨inK3 14 rfl rfl, inK1 7 (by decide +kernel) rfl, by decide +kernel, by decide⟩
theorem mk_X2_readFrom : MK yX2_readFrom cX2_readFrom 4 none 2 := ⟨inK3 18 rfl rfl, inK1 6 (by decide +kernel) rfl, by decide +kernel, by decide⟩
theorem mk_X11_first : MK yX11_first cX11_first 4 (some (.int)) 0 := ⟨inK3 22 rfl rfl, inK1 1 (by decide +kernel) rfl, by decide +kernel, by decide⟩
theorem mk_X2_copyFrom : MK yX2_copyFrom cX2_copyFrom 2 none 1 := ⟨inK3 26 rfl rfl, inK1 6 (by decide +kernel) rfl, by decide +kernel, by decide⟩
theorem mk_X2_openBits : MK yX2_openBits cX2_openBits 4 (some (.int)) 1 := ⟨inK3 30 rfl rfl, inK1 6 (by decide +kernel) rfl, by decide +kernel, by decide⟩
theorem mk_X11_leastBit : MK yX11_leastBit cX11_leastBit 2 (some (.int)) 1 := ⟨inK3 34 rfl rfl, inK1 1 (by decide +kernel) rfl, by decide +kernel, by decide⟩
theorem mk_X11_spent : MK yX11_spent cX11_spent 2 (some (.int)) 0 := ⟨inK3 38 rfl rfl, inK1 1 (by decide +kernel) rfl, by decide +kernel, by decide⟩
theorem mk_X2_threadOfAll : MK yX2_threadOfAll cX2_threadOfAll 4 (some (.int)) 1 := ⟨inK3 42 rfl rfl, inK1 6 (by decide +kernel) rfl, by decide +kernel, by decide⟩
theorem mk_X11_steady : MK yX11_steady cX11_steady 2 (some (.int)) 0 := ⟨inK3 46 rfl rfl, inK1 1 (by decide +kernel) rfl, by decide +kernel, by decide⟩
theorem mk_X2_isLike : MK yX2_isLike cX2_isLike 4 (some (.boolean)) 2 := ⟨inK3 50 rfl rfl, inK1 6 (by decide +kernel) rfl, by decide +kernel, by decide⟩
theorem mk_X11_gaps : MK yX11_gaps cX11_gaps 1 (some (.int)) 0 := ⟨inK3 54 rfl rfl, inK1 1 (by decide +kernel) rfl, by decide +kernel, by decide⟩
theorem mk_X11_rowsOf : MK yX11_rowsOf cX11_rowsOf 4 (some (.int)) 1 := ⟨inK3 58 rfl rfl, inK1 1 (by decide +kernel) rfl, by decide +kernel, by decide⟩
theorem mk_X11_forget : MK yX11_forget cX11_forget 1 none 0 := ⟨inK3 63 rfl rfl, inK1 1 (by decide +kernel) rfl, by decide +kernel, by decide⟩
theorem mk_X7_clear : MK yX7_clear cX7_clear 1 none 0 := ⟨inK3 67 rfl rfl, inK1 8 (by decide +kernel) rfl, by decide +kernel, by decide⟩
theorem mk_X11_image : MK yX11_image cX11_image 1 none 0 := ⟨inK3 71 rfl rfl, inK1 1 (by decide +kernel) rfl, by decide +kernel, by decide⟩
theorem mk_X3_copyFrom : MK yX3_copyFrom cX3_copyFrom 2 none 1 := ⟨inK3 75 rfl rfl, inK1 5 (by decide +kernel) rfl, by decide +kernel, by decide⟩
theorem mk_X4_copyFrom : MK yX4_copyFrom cX4_copyFrom 2 none 1 := ⟨inK3 80 rfl rfl, inK1 7 (by decide +kernel) rfl, by decide +kernel, by decide⟩
theorem mk_X7_copyFrom : MK yX7_copyFrom cX7_copyFrom 2 none 1 := ⟨inK3 85 rfl rfl, inK1 8 (by decide +kernel) rfl, by decide +kernel, by decide⟩
theorem mk_X11_restore : MK yX11_restore cX11_restore 1 (some (.boolean)) 0 := ⟨inK3 90 rfl rfl, inK1 1 (by decide +kernel) rfl, by decide +kernel, by decide⟩
theorem mk_X11_ring : MK yX11_ring cX11_ring 4 (some (.int)) 1 := ⟨inK3 98 rfl rfl, inK1 1 (by decide +kernel) rfl, by decide +kernel, by decide⟩
theorem mk_X9_clear : MK yX9_clear cX9_clear 1 none 0 := ⟨inK3 168 rfl rfl, inK1 2 (by decide +kernel) rfl, by decide +kernel, by decide⟩
theorem mk_X6_clear : MK yX6_clear cX6_clear 1 none 0 := ⟨inK3 172 rfl rfl, inK1 4 (by decide +kernel) rfl, by decide +kernel, by decide⟩
theorem mk_X5_init : MK yX5_init cX5_init 5 none 4 := ⟨inK3 177 rfl rfl, inK1 17 (by decide +kernel) rfl, by decide +kernel, by decide⟩
theorem mk_X5_readText : MK yX5_readText cX5_readText 2 (some (.boolean)) 0 := ⟨inK3 219 rfl rfl, inK1 17 (by decide +kernel) rfl, by decide +kernel, by decide⟩
theorem mk_X5_takeToken : MK yX5_takeToken cX5_takeToken 2 none 0 := ⟨inK3 223 rfl rfl, inK1 17 (by decide +kernel) rfl, by decide +kernel, by decide⟩
theorem mk_X5_kindAt : MK yX5_kindAt cX5_kindAt 3 (some (.int)) 1 := ⟨inK3 227 rfl rfl, inK1 17 (by decide +kernel) rfl, by decide +kernel, by decide⟩
theorem mk_X5_weighNumber : MK yX5_weighNumber cX5_weighNumber 2 none 0 := ⟨inK3 231 rfl rfl, inK1 17 (by decide +kernel) rfl, by decide +kernel, by decide⟩
theorem mk_X5_readLine : MK yX5_readLine cX5_readLine 1 (some (.boolean)) 0 := ⟨inK3 235 rfl rfl, inK1 17 (by decide +kernel) rfl, by decide +kernel, by decide⟩
theorem mk_X5_isWord : MK yX5_isWord cX5_isWord 2 (some (.boolean)) 1 := ⟨inK4 1 rfl rfl, inK1 17 (by decide +kernel) rfl, by decide +kernel, by decide⟩
theorem mk_X10_isSpelled : MK yX10_isSpelled cX10_isSpelled 5 (some (.boolean)) 3 := ⟨inK4 5 rfl rfl, inK1 19 (by decide +kernel) rfl, by decide +kernel, by decide⟩
theorem mk_J0_length_8abf5 : MK yJ0_length_8abf5 cJ0_length_8abf5 1 (some (.int)) 0 := ⟨inK4 9 rfl rfl, inK1 20 (by decide +kernel) rfl, by decide +kernel, by decide⟩
theorem mk_J0_coder_7d493 : MK yJ0_coder_7d493 cJ0_coder_7d493 1 (some (.byte)) 0 := ⟨inK4 13 rfl rfl, inK1 20 (by decide +kernel) rfl, by decide +kernel, by decide⟩
theorem mk_J0_charAt_5068e : MK yJ0_charAt_5068e cJ0_charAt_5068e 2 (some (.char)) 1 := ⟨inK4 19 rfl rfl, inK1 20 (by decide +kernel) rfl, by decide +kernel, by decide⟩
theorem mk_J0_isLatin1_aae02 : MK yJ0_isLatin1_aae02 cJ0_isLatin1_aae02 1 (some (.boolean)) 0 := ⟨inK4 23 rfl rfl, inK1 20 (by decide +kernel) rfl, by decide +kernel, by decide⟩
theorem mk_J1_charAt_3b067 : MK yJ1_charAt_3b067 cJ1_charAt_3b067 2 (some (.char)) 2 := ⟨inK4 26 rfl rfl, inK1 21 (by decide +kernel) rfl, by decide +kernel, by decide⟩
theorem mk_J0_checkIndex_df160 : MK yJ0_checkIndex_df160 cJ0_checkIndex_df160 2 none 2 := ⟨inK4 29 rfl rfl, inK1 20 (by decide +kernel) rfl, by decide +kernel, by decide⟩
theorem mk_J3_checkIndex_8e157 : MK yJ3_checkIndex_8e157 cJ3_checkIndex_8e157 3 (some (.int)) 3 := ⟨inK4 34 rfl rfl, inK1 22 (by decide +kernel) rfl, by decide +kernel, by decide⟩
theorem mk_J2_charAt_3b067 : MK yJ2_charAt_3b067 cJ2_charAt_3b067 2 (some (.char)) 2 := ⟨inK4 37 rfl rfl, inK1 23 (by decide +kernel) rfl, by decide +kernel, by decide⟩
theorem mk_J2_checkIndex_2214a : MK yJ2_checkIndex_2214a cJ2_checkIndex_2214a 2 none 2 := ⟨inK4 40 rfl rfl, inK1 23 (by decide +kernel) rfl, by decide +kernel, by decide⟩
theorem mk_J2_length_9d52b : MK yJ2_length_9d52b cJ2_length_9d52b 1 (some (.int)) 1 := ⟨inK4 43 rfl rfl, inK1 23 (by decide +kernel) rfl, by decide +kernel, by decide⟩
theorem mk_J2_getChar_3b067 : MK yJ2_getChar_3b067 cJ2_getChar_3b067 2 (some (.char)) 2 := ⟨inK4 47 rfl rfl, inK1 23 (by decide +kernel) rfl, by decide +kernel, by decide⟩
theorem mk_X5_readStretch : MK yX5_readStretch cX5_readStretch 3 (some (.boolean)) 0 := ⟨inK4 57 rfl rfl, inK1 17 (by decide +kernel) rfl, by decide +kernel, by decide⟩
theorem mk_X5_fail : MK yX5_fail cX5_fail 2 (some (.boolean)) 1 := ⟨inK4 61 rfl rfl, inK1 17 (by decide +kernel) rfl, by decide +kernel, by decide⟩
theorem mk_X5_isNumber : MK yX5_isNumber cX5_isNumber 3 (some (.boolean)) 2 := ⟨inK4 65 rfl rfl, inK1 17 (by decide +kernel) rfl, by decide +kernel, by decide⟩
theorem mk_X5_passSign : MK yX5_passSign cX5_passSign 2 (some (.boolean)) 1 := ⟨inK4 70 rfl rfl, inK1 17 (by decide +kernel) rfl, by decide +kernel, by decide⟩
theorem mk_X5_isSign : MK yX5_isSign cX5_isSign 2 (some (.boolean)) 1 := ⟨inK4 74 rfl rfl, inK1 17 (by decide +kernel) rfl, by decide +kernel, by decide⟩
theorem mk_X5_readWoman : MK yX5_readWoman cX5_readWoman 3 (some (.boolean)) 0 := ⟨inK4 80 rfl rfl, inK1 17 (by decide +kernel) rfl, by decide +kernel, by decide⟩
theorem mk_X5_isStretchTold : MK yX5_isStretchTold cX5_isStretchTold 1 (some (.boolean)) 0 := ⟨inK4 84 rfl rfl, inK1 17 (by decide +kernel) rfl, by decide +kernel, by decide⟩
theorem mk_X2_putWoman : MK yX2_putWoman cX2_putWoman 4 none 3 := ⟨inK4 88 rfl rfl, inK1 6 (by decide +kernel) rfl, by decide +kernel, by decide⟩
theorem mk_X5_readKnots : MK yX5_readKnots cX5_readKnots 2 (some (.boolean)) 0 := ⟨inK4 94 rfl rfl, inK1 17 (by decide +kernel) rfl, by decide +kernel, by decide⟩
theorem mk_X1_has : MK yX1_has cX1_has 4 (some (.boolean)) 2 := ⟨inK4 98 rfl rfl, inK1 3 (by decide +kernel) rfl, by decide +kernel, by decide⟩
theorem mk_X1_tie : MK yX1_tie cX1_tie 3 none 2 := ⟨inK4 102 rfl rfl, inK1 3 (by decide +kernel) rfl, by decide +kernel, by decide⟩
theorem mk_X5_readWeek : MK yX5_readWeek cX5_readWeek 1 (some (.boolean)) 0 := ⟨inK4 108 rfl rfl, inK1 17 (by decide +kernel) rfl, by decide +kernel, by decide⟩
theorem mk_X5_readRule : MK yX5_readRule cX5_readRule 2 (some (.boolean)) 1 := ⟨inK4 114 rfl rfl, inK1 17 (by decide +kernel) rfl, by decide +kernel, by decide⟩
theorem mk_X9_begin : MK yX9_begin cX9_begin 2 none 1 := ⟨inK4 118 rfl rfl, inK1 2 (by decide +kernel) rfl, by decide +kernel, by decide⟩
theorem mk_X5_readExpr : MK yX5_readExpr cX5_readExpr 2 (some (.boolean)) 1 := ⟨inK4 122 rfl rfl, inK1 17 (by decide +kernel) rfl, by decide +kernel, by decide⟩
theorem mk_X5_readRank : MK yX5_readRank cX5_readRank 7 (some (.boolean)) 2 := ⟨inK4 126 rfl rfl, inK1 17 (by decide +kernel) rfl, by decide +kernel, by decide⟩
theorem mk_X5_readPart : MK yX5_readPart cX5_readPart 3 (some (.boolean)) 1 := ⟨inK4 130 rfl rfl, inK1 17 (by decide +kernel) rfl, by decide +kernel, by decide⟩
theorem mk_X10_of : MK yX10_of cX10_of 4 (some (.object "HorizonSeam$Word")) 3 := ⟨inK4 133 rfl rfl, inK1 19 (by decide +kernel) rfl, by decide +kernel, by decide⟩
theorem mk_X9_append : MK yX9_append cX9_append 2 none 1 := ⟨inK4 142 rfl rfl, inK1 2 (by decide +kernel) rfl, by decide +kernel, by decide⟩
theorem mk_X5_passNots : MK yX5_passNots cX5_passNots 2 (some (.int)) 0 := ⟨inK4 146 rfl rfl, inK1 17 (by decide +kernel) rfl, by decide +kernel, by decide⟩
theorem mk_X5_joint : MK yX5_joint cX5_joint 2 (some (.int)) 1 := ⟨inK4 152 rfl rfl, inK1 17 (by decide +kernel) rfl, by decide +kernel, by decide⟩
theorem mk_X9_end : MK yX9_end cX9_end 2 none 1 := ⟨inK4 160 rfl rfl, inK1 2 (by decide +kernel) rfl, by decide +kernel, by decide⟩
theorem mk_X4_clear : MK yX4_clear cX4_clear 1 none 0 := ⟨inK4 166 rfl rfl, inK1 7 (by decide +kernel) rfl, by decide +kernel, by decide⟩
theorem mk_X11_count : MK yX11_count cX11_count 2 (some (.int)) 1 := ⟨inK4 174 rfl rfl, inK1 1 (by decide +kernel) rfl, by decide +kernel, by decide⟩
theorem mk_X2_seamOfAll : MK yX2_seamOfAll cX2_seamOfAll 4 (some (.int)) 1 := ⟨inK4 178 rfl rfl, inK1 6 (by decide +kernel) rfl, by decide +kernel, by decide⟩
theorem mk_X2_idleBits : MK yX2_idleBits cX2_idleBits 5 (some (.int)) 1 := ⟨inK4 182 rfl rfl, inK1 6 (by decide +kernel) rfl, by decide +kernel, by decide⟩
theorem mk_X2_bareBits : MK yX2_bareBits cX2_bareBits 4 (some (.int)) 1 := ⟨inK4 186 rfl rfl, inK1 6 (by decide +kernel) rfl, by decide +kernel, by decide⟩
theorem mk_X11_stretch : MK yX11_stretch cX11_stretch 3 (some (.int)) 2 := ⟨inK4 209 rfl rfl, inK1 1 (by decide +kernel) rfl, by decide +kernel, by decide⟩
theorem mk_X11_needStretch : MK yX11_needStretch cX11_needStretch 2 none 1 := ⟨inK4 213 rfl rfl, inK1 1 (by decide +kernel) rfl, by decide +kernel, by decide⟩
theorem mk_X11_isStretch : MK yX11_isStretch cX11_isStretch 2 (some (.boolean)) 1 := ⟨inK4 217 rfl rfl, inK1 1 (by decide +kernel) rfl, by decide +kernel, by decide⟩
theorem mk_X11_woman : MK yX11_woman cX11_woman 3 (some (.int)) 2 := ⟨inK4 230 rfl rfl, inK1 1 (by decide +kernel) rfl, by decide +kernel, by decide⟩
theorem mk_X11_needWoman : MK yX11_needWoman cX11_needWoman 2 none 1 := ⟨inK4 234 rfl rfl, inK1 1 (by decide +kernel) rfl, by decide +kernel, by decide⟩
theorem mk_X11_mend : MK yX11_mend cX11_mend 2 (some (.int)) 1 := ⟨inK5 3 rfl rfl, inK1 1 (by decide +kernel) rfl, by decide +kernel, by decide⟩
theorem mk_X2_seamWhere : MK yX2_seamWhere cX2_seamWhere 3 (some (.int)) 1 := ⟨inK5 8 rfl rfl, inK1 6 (by decide +kernel) rfl, by decide +kernel, by decide⟩
theorem mk_X11_go : MK yX11_go cX11_go 4 (some (.int)) 2 := ⟨inK5 15 rfl rfl, inK1 1 (by decide +kernel) rfl, by decide +kernel, by decide⟩
theorem mk_X11_stitch : MK yX11_stitch cX11_stitch 4 (some (.int)) 2 := ⟨inK5 22 rfl rfl, inK1 1 (by decide +kernel) rfl, by decide +kernel, by decide⟩
theorem mk_X11_thread : MK yX11_thread cX11_thread 3 (some (.int)) 2 := ⟨inK5 29 rfl rfl, inK1 1 (by decide +kernel) rfl, by decide +kernel, by decide⟩
theorem mk_X2_giveThread : MK yX2_giveThread cX2_giveThread 3 none 2 := ⟨inK5 33 rfl rfl, inK1 6 (by decide +kernel) rfl, by decide +kernel, by decide⟩
theorem mk_X11_tear : MK yX11_tear cX11_tear 3 (some (.int)) 2 := ⟨inK5 40 rfl rfl, inK1 1 (by decide +kernel) rfl, by decide +kernel, by decide⟩
theorem mk_X2_tearOff : MK yX2_tearOff cX2_tearOff 4 none 3 := ⟨inK5 44 rfl rfl, inK1 6 (by decide +kernel) rfl, by decide +kernel, by decide⟩
theorem mk_X11_then : MK yX11_then cX11_then 4 (some (.int)) 3 := ⟨inK5 51 rfl rfl, inK1 1 (by decide +kernel) rfl, by decide +kernel, by decide⟩
theorem mk_X11_needWhat : MK yX11_needWhat cX11_needWhat 2 none 2 := ⟨inK5 54 rfl rfl, inK1 1 (by decide +kernel) rfl, by decide +kernel, by decide⟩
theorem mk_X11_needDays : MK yX11_needDays cX11_needDays 2 none 2 := ⟨inK5 58 rfl rfl, inK1 1 (by decide +kernel) rfl, by decide +kernel, by decide⟩
theorem mk_X11_lookAhead : MK yX11_lookAhead cX11_lookAhead 2 none 1 := ⟨inK5 63 rfl rfl, inK1 1 (by decide +kernel) rfl, by decide +kernel, by decide⟩
theorem mk_X11_later : MK yX11_later cX11_later 3 (some (.int)) 2 := ⟨inK5 70 rfl rfl, inK1 1 (by decide +kernel) rfl, by decide +kernel, by decide⟩
theorem mk_X2_tightest : MK yX2_tightest cX2_tightest 4 (some (.int)) 1 := ⟨inK5 74 rfl rfl, inK1 6 (by decide +kernel) rfl, by decide +kernel, by decide⟩
theorem mk_X2_mostStrain : MK yX2_mostStrain cX2_mostStrain 4 (some (.int)) 1 := ⟨inK5 78 rfl rfl, inK1 6 (by decide +kernel) rfl, by decide +kernel, by decide⟩
theorem mk_X2_leastStrain : MK yX2_leastStrain cX2_leastStrain 4 (some (.int)) 1 := ⟨inK5 82 rfl rfl, inK1 6 (by decide +kernel) rfl, by decide +kernel, by decide⟩
theorem mk_X11_opens : MK yX11_opens cX11_opens 3 (some (.int)) 1 := ⟨inK5 89 rfl rfl, inK1 1 (by decide +kernel) rfl, by decide +kernel, by decide⟩
theorem mk_X11_where : MK yX11_where cX11_where 4 (some (.int)) 3 := ⟨inK5 96 rfl rfl, inK1 1 (by decide +kernel) rfl, by decide +kernel, by decide⟩
theorem mk_X11_toHold : MK yX11_toHold cX11_toHold 5 (some (.int)) 2 := ⟨inK5 103 rfl rfl, inK1 1 (by decide +kernel) rfl, by decide +kernel, by decide⟩
theorem mk_X11_staysClosed : MK yX11_staysClosed cX11_staysClosed 4 (some (.boolean)) 2 := ⟨inK5 107 rfl rfl, inK1 1 (by decide +kernel) rfl, by decide +kernel, by decide⟩
theorem mk_X11_toSend : MK yX11_toSend cX11_toSend 8 (some (.int)) 3 := ⟨inK5 114 rfl rfl, inK1 1 (by decide +kernel) rfl, by decide +kernel, by decide⟩
theorem mk_X11_bestStitch : MK yX11_bestStitch cX11_bestStitch 6 (some (.int)) 2 := ⟨inK5 122 rfl rfl, inK1 1 (by decide +kernel) rfl, by decide +kernel, by decide⟩
theorem mk_X11_sent : MK yX11_sent cX11_sent 3 (some (.int)) 2 := ⟨inK5 129 rfl rfl, inK1 1 (by decide +kernel) rfl, by decide +kernel, by decide⟩
theorem mk_X8_weigh : MK yX8_weigh cX8_weigh 5 none 3 := ⟨inK5 135 rfl rfl, inK1 10 (by decide +kernel) rfl, by decide +kernel, by decide⟩
theorem mk_X8_fewestBehind : MK yX8_fewestBehind cX8_fewestBehind 6 (some (.int)) 3 := ⟨inK5 140 rfl rfl, inK1 10 (by decide +kernel) rfl, by decide +kernel, by decide⟩
theorem mk_X8_stepsBy : MK yX8_stepsBy cX8_stepsBy 6 (some (.int)) 4 := ⟨inK5 144 rfl rfl, inK1 10 (by decide +kernel) rfl, by decide +kernel, by decide⟩
theorem mk_X9_steps : MK yX9_steps cX9_steps 4 (some (.int)) 2 := ⟨inK5 148 rfl rfl, inK1 2 (by decide +kernel) rfl, by decide +kernel, by decide⟩
theorem mk_J9_abs_0f7a4 : MK yJ9_abs_0f7a4 cJ9_abs_0f7a4 1 (some (.int)) 1 := ⟨inK5 151 rfl rfl, inK1 11 (by decide +kernel) rfl, by decide +kernel, by decide⟩
theorem mk_X8_stepsOfAll : MK yX8_stepsOfAll cX8_stepsOfAll 1 (some (.int)) 0 := ⟨inK5 157 rfl rfl, inK1 10 (by decide +kernel) rfl, by decide +kernel, by decide⟩
theorem mk_X8_whoGoesTo : MK yX8_whoGoesTo cX8_whoGoesTo 7 (some (.int)) 3 := ⟨inK5 161 rfl rfl, inK1 10 (by decide +kernel) rfl, by decide +kernel, by decide⟩
theorem mk_X8_whoIsNext : MK yX8_whoIsNext cX8_whoIsNext 5 (some (.int)) 3 := ⟨inK5 165 rfl rfl, inK1 10 (by decide +kernel) rfl, by decide +kernel, by decide⟩
theorem mk_X11_closed : MK yX11_closed cX11_closed 6 (some (.int)) 1 := ⟨inK5 172 rfl rfl, inK1 1 (by decide +kernel) rfl, by decide +kernel, by decide⟩
theorem mk_X11_closedFrom : MK yX11_closedFrom cX11_closedFrom 4 (some (.int)) 1 := ⟨inK5 176 rfl rfl, inK1 1 (by decide +kernel) rfl, by decide +kernel, by decide⟩
theorem mk_X11_tight : MK yX11_tight cX11_tight 7 (some (.int)) 2 := ⟨inK5 184 rfl rfl, inK1 1 (by decide +kernel) rfl, by decide +kernel, by decide⟩
theorem mk_X11_strainFrom : MK yX11_strainFrom cX11_strainFrom 6 (some (.int)) 2 := ⟨inK5 189 rfl rfl, inK1 1 (by decide +kernel) rfl, by decide +kernel, by decide⟩
theorem mk_X11_readings : MK yX11_readings cX11_readings 3 (some (.int)) 2 := ⟨inK5 196 rfl rfl, inK1 1 (by decide +kernel) rfl, by decide +kernel, by decide⟩
theorem mk_X1_untie : MK yX1_untie cX1_untie 4 none 1 := ⟨inK5 202 rfl rfl, inK1 3 (by decide +kernel) rfl, by decide +kernel, by decide⟩
theorem mk_X1_spell : MK yX1_spell cX1_spell 5 (some (.int)) 1 := ⟨inK5 206 rfl rfl, inK1 3 (by decide +kernel) rfl, by decide +kernel, by decide⟩
theorem mk_X1_untieFrom : MK yX1_untieFrom cX1_untieFrom 6 none 2 := ⟨inK5 210 rfl rfl, inK1 3 (by decide +kernel) rfl, by decide +kernel, by decide⟩
theorem mk_X11_see : MK yX11_see cX11_see 5 (some (.int)) 3 := ⟨inK5 219 rfl rfl, inK1 1 (by decide +kernel) rfl, by decide +kernel, by decide⟩
theorem mk_X7_put : MK yX7_put cX7_put 4 none 3 := ⟨inK5 223 rfl rfl, inK1 8 (by decide +kernel) rfl, by decide +kernel, by decide⟩
theorem mk_X11_torn : MK yX11_torn cX11_torn 2 (some (.int)) 1 := ⟨inK5 230 rfl rfl, inK1 1 (by decide +kernel) rfl, by decide +kernel, by decide⟩
theorem mk_X0_isSoWithout : MK yX0_isSoWithout cX0_isSoWithout 3 (some (.boolean)) 2 := ⟨inK5 234 rfl rfl, inK1 9 (by decide +kernel) rfl, by decide +kernel, by decide⟩
theorem mk_X0_isSo : MK yX0_isSo cX0_isSo 6 (some (.boolean)) 3 := ⟨inK5 239 rfl rfl, inK1 9 (by decide +kernel) rfl, by decide +kernel, by decide⟩
theorem mk_X7_lastDay : MK yX7_lastDay cX7_lastDay 3 (some (.int)) 0 := ⟨inK6 3 rfl rfl, inK1 8 (by decide +kernel) rfl, by decide +kernel, by decide⟩
theorem mk_X7_isSo : MK yX7_isSo cX7_isSo 4 (some (.boolean)) 2 := ⟨inK6 9 rfl rfl, inK1 8 (by decide +kernel) rfl, by decide +kernel, by decide⟩
theorem mk_X0_weighTears : MK yX0_weighTears cX0_weighTears 8 none 3 := ⟨inK6 15 rfl rfl, inK1 9 (by decide +kernel) rfl, by decide +kernel, by decide⟩
theorem mk_X0_mark : MK yX0_mark cX0_mark 3 none 1 := ⟨inK6 21 rfl rfl, inK1 9 (by decide +kernel) rfl, by decide +kernel, by decide⟩
theorem mk_X11_look : MK yX11_look cX11_look 6 (some (.int)) 1 := ⟨inK6 28 rfl rfl, inK1 1 (by decide +kernel) rfl, by decide +kernel, by decide⟩
theorem mk_X0_unlikeSeams : MK yX0_unlikeSeams cX0_unlikeSeams 2 (some (.int)) 1 := ⟨inK6 32 rfl rfl, inK1 9 (by decide +kernel) rfl, by decide +kernel, by decide⟩
theorem mk_J13_bitCount_95d88 : MK yJ13_bitCount_95d88 cJ13_bitCount_95d88 2 (some (.int)) 1 := ⟨inK6 35 rfl rfl, inK1 27 (by decide +kernel) rfl, by decide +kernel, by decide⟩
theorem mk_X11_gales : MK yX11_gales cX11_gales 7 (some (.int)) 2 := ⟨inK6 45 rfl rfl, inK1 1 (by decide +kernel) rfl, by decide +kernel, by decide⟩
theorem mk_X11_weightOf : MK yX11_weightOf cX11_weightOf 5 (some (.int)) 3 := ⟨inK6 49 rfl rfl, inK1 1 (by decide +kernel) rfl, by decide +kernel, by decide⟩
theorem mk_X11_blow : MK yX11_blow cX11_blow 4 none 2 := ⟨inK6 53 rfl rfl, inK1 1 (by decide +kernel) rfl, by decide +kernel, by decide⟩
theorem mk_X2_gale : MK yX2_gale cX2_gale 3 none 1 := ⟨inK6 57 rfl rfl, inK1 6 (by decide +kernel) rfl, by decide +kernel, by decide⟩
theorem mk_X11_game : MK yX11_game cX11_game 7 (some (.int)) 3 := ⟨inK6 64 rfl rfl, inK1 1 (by decide +kernel) rfl, by decide +kernel, by decide⟩
theorem mk_X11_playCouple : MK yX11_playCouple cX11_playCouple 6 none 3 := ⟨inK6 69 rfl rfl, inK1 1 (by decide +kernel) rfl, by decide +kernel, by decide⟩
theorem mk_X11_play : MK yX11_play cX11_play 3 none 2 := ⟨inK6 73 rfl rfl, inK1 1 (by decide +kernel) rfl, by decide +kernel, by decide⟩
theorem mk_X11_seamThen : MK yX11_seamThen cX11_seamThen 3 (some (.int)) 1 := ⟨inK6 78 rfl rfl, inK1 1 (by decide +kernel) rfl, by decide +kernel, by decide⟩
theorem mk_X11_rests : MK yX11_rests cX11_rests 4 (some (.boolean)) 1 := ⟨inK6 82 rfl rfl, inK1 1 (by decide +kernel) rfl, by decide +kernel, by decide⟩
theorem mk_X11_years : MK yX11_years cX11_years 5 (some (.int)) 3 := ⟨inK6 89 rfl rfl, inK1 1 (by decide +kernel) rfl, by decide +kernel, by decide⟩
theorem mk_X11_befall : MK yX11_befall cX11_befall 4 none 0 := ⟨inK6 93 rfl rfl, inK1 1 (by decide +kernel) rfl, by decide +kernel, by decide⟩
theorem mk_X11_draw : MK yX11_draw cX11_draw 2 (some (.int)) 1 := ⟨inK6 97 rfl rfl, inK1 1 (by decide +kernel) rfl, by decide +kernel, by decide⟩
theorem mk_X11_nearest : MK yX11_nearest cX11_nearest 6 (some (.int)) 1 := ⟨inK6 106 rfl rfl, inK1 1 (by decide +kernel) rfl, by decide +kernel, by decide⟩
theorem mk_X11_far : MK yX11_far cX11_far 3 (some (.int)) 2 := ⟨inK6 114 rfl rfl, inK1 1 (by decide +kernel) rfl, by decide +kernel, by decide⟩
theorem mk_X11_worst : MK yX11_worst cX11_worst 6 (some (.int)) 1 := ⟨inK6 121 rfl rfl, inK1 1 (by decide +kernel) rfl, by decide +kernel, by decide⟩
theorem mk_X11_meet : MK yX11_meet cX11_meet 3 (some (.int)) 2 := ⟨inK6 129 rfl rfl, inK1 1 (by decide +kernel) rfl, by decide +kernel, by decide⟩
theorem mk_X11_bare : MK yX11_bare cX11_bare 2 (some (.int)) 1 := ⟨inK6 136 rfl rfl, inK1 1 (by decide +kernel) rfl, by decide +kernel, by decide⟩
theorem mk_X11_load : MK yX11_load cX11_load 2 (some (.int)) 1 := ⟨inK6 144 rfl rfl, inK1 1 (by decide +kernel) rfl, by decide +kernel, by decide⟩
theorem mk_X2_strainedBits : MK yX2_strainedBits cX2_strainedBits 5 (some (.int)) 2 := ⟨inK6 149 rfl rfl, inK1 6 (by decide +kernel) rfl, by decide +kernel, by decide⟩
theorem mk_X12_init : MK yX12_init cX12_init 2 none 0 := ⟨inK6 154 rfl rfl, inK1 12 (by decide +kernel) rfl, by decide +kernel, by decide⟩
theorem mk_X12_thrown : MK yX12_thrown cX12_thrown 1 (some (.int)) 0 := ⟨inK7 110 rfl rfl, inK1 12 (by decide +kernel) rfl, by decide +kernel, by decide⟩
theorem mk_X12_feed : MK yX12_feed cX12_feed 6 (some (.int)) 5 := ⟨inK7 114 rfl rfl, inK1 12 (by decide +kernel) rfl, by decide +kernel, by decide⟩
theorem mk_X12_lays : MK yX12_lays cX12_lays 3 none 1 := ⟨inK7 118 rfl rfl, inK1 12 (by decide +kernel) rfl, by decide +kernel, by decide⟩
theorem mk_X12_ring : MK yX12_ring cX12_ring 3 (some (.int)) 1 := ⟨inK7 122 rfl rfl, inK1 12 (by decide +kernel) rfl, by decide +kernel, by decide⟩
theorem mk_X12_right : MK yX12_right cX12_right 3 (some (.boolean)) 2 := ⟨inK7 126 rfl rfl, inK1 12 (by decide +kernel) rfl, by decide +kernel, by decide⟩
theorem mk_X12_goes : MK yX12_goes cX12_goes 2 none 0 := ⟨inK7 130 rfl rfl, inK1 12 (by decide +kernel) rfl, by decide +kernel, by decide⟩
theorem mk_X12_byteAt : MK yX12_byteAt cX12_byteAt 2 (some (.int)) 1 := ⟨inK7 134 rfl rfl, inK1 12 (by decide +kernel) rfl, by decide +kernel, by decide⟩
theorem mk_X12_isLetter : MK yX12_isLetter cX12_isLetter 1 (some (.boolean)) 1 := ⟨inK7 137 rfl rfl, inK1 12 (by decide +kernel) rfl, by decide +kernel, by decide⟩
theorem mk_X12_isDigit : MK yX12_isDigit cX12_isDigit 1 (some (.boolean)) 1 := ⟨inK7 140 rfl rfl, inK1 12 (by decide +kernel) rfl, by decide +kernel, by decide⟩
theorem mk_X12_isGood : MK yX12_isGood cX12_isGood 1 (some (.boolean)) 0 := ⟨inK7 144 rfl rfl, inK1 12 (by decide +kernel) rfl, by decide +kernel, by decide⟩
theorem mk_X12_line : MK yX12_line cX12_line 2 none 0 := ⟨inK7 148 rfl rfl, inK1 12 (by decide +kernel) rfl, by decide +kernel, by decide⟩
theorem mk_X12_knownWord : MK yX12_knownWord cX12_knownWord 2 (some (.int)) 0 := ⟨inK7 152 rfl rfl, inK1 12 (by decide +kernel) rfl, by decide +kernel, by decide⟩
theorem mk_X12_letters : MK yX12_letters cX12_letters 1 (some (.long)) 1 := ⟨inK7 155 rfl rfl, inK1 12 (by decide +kernel) rfl, by decide +kernel, by decide⟩
theorem mk_X12_spelled : MK yX12_spelled cX12_spelled 9 (some (.long)) 7 := ⟨inK7 158 rfl rfl, inK1 12 (by decide +kernel) rfl, by decide +kernel, by decide⟩
theorem mk_X12_begins : MK yX12_begins cX12_begins 3 (some (.boolean)) 2 := ⟨inK7 163 rfl rfl, inK1 12 (by decide +kernel) rfl, by decide +kernel, by decide⟩
theorem mk_X12_wrong : MK yX12_wrong cX12_wrong 2 none 1 := ⟨inK7 167 rfl rfl, inK1 12 (by decide +kernel) rfl, by decide +kernel, by decide⟩
theorem mk_X12_readsStretch : MK yX12_readsStretch cX12_readsStretch 2 none 0 := ⟨inK7 171 rfl rfl, inK1 12 (by decide +kernel) rfl, by decide +kernel, by decide⟩
theorem mk_X12_number : MK yX12_number cX12_number 4 (some (.int)) 2 := ⟨inK7 175 rfl rfl, inK1 12 (by decide +kernel) rfl, by decide +kernel, by decide⟩
theorem mk_X12_readsWoman : MK yX12_readsWoman cX12_readsWoman 2 none 0 := ⟨inK7 179 rfl rfl, inK1 12 (by decide +kernel) rfl, by decide +kernel, by decide⟩
theorem mk_X12_readsKnots : MK yX12_readsKnots cX12_readsKnots 2 none 0 := ⟨inK7 183 rfl rfl, inK1 12 (by decide +kernel) rfl, by decide +kernel, by decide⟩
theorem mk_X12_isKnot : MK yX12_isKnot cX12_isKnot 2 (some (.boolean)) 0 := ⟨inK7 187 rfl rfl, inK1 12 (by decide +kernel) rfl, by decide +kernel, by decide⟩
theorem mk_X12_expression : MK yX12_expression cX12_expression 3 none 0 := ⟨inK7 191 rfl rfl, inK1 12 (by decide +kernel) rfl, by decide +kernel, by decide⟩
theorem mk_X12_deeper : MK yX12_deeper cX12_deeper 1 none 0 := ⟨inK7 195 rfl rfl, inK1 12 (by decide +kernel) rfl, by decide +kernel, by decide⟩
theorem mk_X12_isSign : MK yX12_isSign cX12_isSign 2 (some (.boolean)) 1 := ⟨inK7 199 rfl rfl, inK1 12 (by decide +kernel) rfl, by decide +kernel, by decide⟩
theorem mk_X12_operand : MK yX12_operand cX12_operand 5 none 1 := ⟨inK7 203 rfl rfl, inK1 12 (by decide +kernel) rfl, by decide +kernel, by decide⟩
theorem mk_X12_waitsFor : MK yX12_waitsFor cX12_waitsFor 2 none 1 := ⟨inK7 207 rfl rfl, inK1 12 (by decide +kernel) rfl, by decide +kernel, by decide⟩
theorem mk_X12_part : MK yX12_part cX12_part 2 none 0 := ⟨inK7 211 rfl rfl, inK1 12 (by decide +kernel) rfl, by decide +kernel, by decide⟩
theorem mk_X12_puts : MK yX12_puts cX12_puts 2 none 1 := ⟨inK7 215 rfl rfl, inK1 12 (by decide +kernel) rfl, by decide +kernel, by decide⟩
theorem mk_X12_drops : MK yX12_drops cX12_drops 2 none 1 := ⟨inK7 219 rfl rfl, inK1 12 (by decide +kernel) rfl, by decide +kernel, by decide⟩
theorem mk_X12_isOpen : MK yX12_isOpen cX12_isOpen 1 (some (.boolean)) 1 := ⟨inK7 222 rfl rfl, inK1 12 (by decide +kernel) rfl, by decide +kernel, by decide⟩
theorem mk_X12_strength : MK yX12_strength cX12_strength 1 (some (.int)) 1 := ⟨inK7 225 rfl rfl, inK1 12 (by decide +kernel) rfl, by decide +kernel, by decide⟩
theorem mk_X12_isOpened : MK yX12_isOpened cX12_isOpened 2 (some (.boolean)) 0 := ⟨inK7 229 rfl rfl, inK1 12 (by decide +kernel) rfl, by decide +kernel, by decide⟩
theorem mk_X12_closes : MK yX12_closes cX12_closes 1 none 0 := ⟨inK7 233 rfl rfl, inK1 12 (by decide +kernel) rfl, by decide +kernel, by decide⟩
theorem mk_X12_need : MK yX12_need cX12_need 2 none 1 := ⟨inK7 237 rfl rfl, inK1 12 (by decide +kernel) rfl, by decide +kernel, by decide⟩
theorem mk_X12_copies : MK yX12_copies cX12_copies 4 none 2 := ⟨inK8 1 rfl rfl, inK1 12 (by decide +kernel) rfl, by decide +kernel, by decide⟩
theorem mk_X12_fault : MK yX12_fault cX12_fault 1 (some (.int)) 0 := ⟨inK8 5 rfl rfl, inK1 12 (by decide +kernel) rfl, by decide +kernel, by decide⟩
theorem mk_X12_undo : MK yX12_undo cX12_undo 2 (some (.int)) 0 := ⟨inK8 9 rfl rfl, inK1 12 (by decide +kernel) rfl, by decide +kernel, by decide⟩
theorem mk_X12_count : MK yX12_count cX12_count 2 (some (.int)) 1 := ⟨inK8 13 rfl rfl, inK1 12 (by decide +kernel) rfl, by decide +kernel, by decide⟩
theorem mk_X12_within : MK yX12_within cX12_within 3 (some (.boolean)) 3 := ⟨inK8 16 rfl rfl, inK1 12 (by decide +kernel) rfl, by decide +kernel, by decide⟩
theorem mk_X12_openOnes : MK yX12_openOnes cX12_openOnes 4 (some (.int)) 1 := ⟨inK8 20 rfl rfl, inK1 12 (by decide +kernel) rfl, by decide +kernel, by decide⟩
theorem mk_X12_isGap : MK yX12_isGap cX12_isGap 3 (some (.boolean)) 2 := ⟨inK8 24 rfl rfl, inK1 12 (by decide +kernel) rfl, by decide +kernel, by decide⟩
theorem mk_X12_sumOf : MK yX12_sumOf cX12_sumOf 6 (some (.int)) 3 := ⟨inK8 28 rfl rfl, inK1 12 (by decide +kernel) rfl, by decide +kernel, by decide⟩
theorem mk_X12_idle : MK yX12_idle cX12_idle 3 (some (.int)) 0 := ⟨inK8 32 rfl rfl, inK1 12 (by decide +kernel) rfl, by decide +kernel, by decide⟩
theorem mk_X12_womenAt : MK yX12_womenAt cX12_womenAt 5 (some (.int)) 2 := ⟨inK8 36 rfl rfl, inK1 12 (by decide +kernel) rfl, by decide +kernel, by decide⟩
theorem mk_X12_stretch : MK yX12_stretch cX12_stretch 3 (some (.int)) 2 := ⟨inK8 40 rfl rfl, inK1 12 (by decide +kernel) rfl, by decide +kernel, by decide⟩
theorem mk_X12_isStretch : MK yX12_isStretch cX12_isStretch 2 (some (.boolean)) 1 := ⟨inK8 44 rfl rfl, inK1 12 (by decide +kernel) rfl, by decide +kernel, by decide⟩
theorem mk_X12_isWhat : MK yX12_isWhat cX12_isWhat 3 (some (.boolean)) 2 := ⟨inK8 48 rfl rfl, inK1 12 (by decide +kernel) rfl, by decide +kernel, by decide⟩
theorem mk_X12_fraysOf : MK yX12_fraysOf cX12_fraysOf 3 (some (.int)) 2 := ⟨inK8 52 rfl rfl, inK1 12 (by decide +kernel) rfl, by decide +kernel, by decide⟩
theorem mk_X12_asks : MK yX12_asks cX12_asks 4 (some (.int)) 3 := ⟨inK8 56 rfl rfl, inK1 12 (by decide +kernel) rfl, by decide +kernel, by decide⟩
theorem mk_X12_besideOf : MK yX12_besideOf cX12_besideOf 3 (some (.int)) 2 := ⟨inK8 60 rfl rfl, inK1 12 (by decide +kernel) rfl, by decide +kernel, by decide⟩
theorem mk_X12_ahead1 : MK yX12_ahead1 cX12_ahead1 2 (some (.int)) 1 := ⟨inK8 64 rfl rfl, inK1 12 (by decide +kernel) rfl, by decide +kernel, by decide⟩
theorem mk_X12_behind1 : MK yX12_behind1 cX12_behind1 2 (some (.int)) 1 := ⟨inK8 68 rfl rfl, inK1 12 (by decide +kernel) rfl, by decide +kernel, by decide⟩
theorem mk_X12_bits : MK yX12_bits cX12_bits 3 (some (.int)) 1 := ⟨inK8 71 rfl rfl, inK1 12 (by decide +kernel) rfl, by decide +kernel, by decide⟩
theorem mk_X12_reckons : MK yX12_reckons cX12_reckons 5 (some (.int)) 1 := ⟨inK8 75 rfl rfl, inK1 12 (by decide +kernel) rfl, by decide +kernel, by decide⟩
theorem mk_X12_works : MK yX12_works cX12_works 3 (some (.int)) 3 := ⟨inK8 78 rfl rfl, inK1 12 (by decide +kernel) rfl, by decide +kernel, by decide⟩
theorem mk_X12_bounded : MK yX12_bounded cX12_bounded 3 (some (.int)) 3 := ⟨inK8 81 rfl rfl, inK1 12 (by decide +kernel) rfl, by decide +kernel, by decide⟩
theorem mk_X12_pullsOf : MK yX12_pullsOf cX12_pullsOf 3 (some (.int)) 2 := ⟨inK8 85 rfl rfl, inK1 12 (by decide +kernel) rfl, by decide +kernel, by decide⟩
theorem mk_X12_woman : MK yX12_woman cX12_woman 3 (some (.int)) 2 := ⟨inK8 89 rfl rfl, inK1 12 (by decide +kernel) rfl, by decide +kernel, by decide⟩
theorem mk_X12_isWoman : MK yX12_isWoman cX12_isWoman 2 (some (.boolean)) 1 := ⟨inK8 93 rfl rfl, inK1 12 (by decide +kernel) rfl, by decide +kernel, by decide⟩
theorem mk_X12_days : MK yX12_days cX12_days 3 (some (.int)) 1 := ⟨inK8 97 rfl rfl, inK1 12 (by decide +kernel) rfl, by decide +kernel, by decide⟩
theorem mk_X12_refuses : MK yX12_refuses cX12_refuses 2 (some (.int)) 1 := ⟨inK8 101 rfl rfl, inK1 12 (by decide +kernel) rfl, by decide +kernel, by decide⟩
theorem mk_X12_keeps : MK yX12_keeps cX12_keeps 2 none 0 := ⟨inK8 105 rfl rfl, inK1 12 (by decide +kernel) rfl, by decide +kernel, by decide⟩
theorem mk_X12_dayGoes : MK yX12_dayGoes cX12_dayGoes 3 none 1 := ⟨inK8 109 rfl rfl, inK1 12 (by decide +kernel) rfl, by decide +kernel, by decide⟩
theorem mk_X12_loosens : MK yX12_loosens cX12_loosens 5 none 3 := ⟨inK8 113 rfl rfl, inK1 12 (by decide +kernel) rfl, by decide +kernel, by decide⟩
theorem mk_X12_strains : MK yX12_strains cX12_strains 4 none 3 := ⟨inK8 117 rfl rfl, inK1 12 (by decide +kernel) rfl, by decide +kernel, by decide⟩
theorem mk_X12_lesser : MK yX12_lesser cX12_lesser 2 (some (.int)) 2 := ⟨inK8 120 rfl rfl, inK1 12 (by decide +kernel) rfl, by decide +kernel, by decide⟩
theorem mk_X12_mends : MK yX12_mends cX12_mends 4 none 2 := ⟨inK8 124 rfl rfl, inK1 12 (by decide +kernel) rfl, by decide +kernel, by decide⟩
theorem mk_X12_goesOn : MK yX12_goesOn cX12_goesOn 3 none 2 := ⟨inK8 128 rfl rfl, inK1 12 (by decide +kernel) rfl, by decide +kernel, by decide⟩
theorem mk_X12_mend : MK yX12_mend cX12_mend 2 (some (.int)) 1 := ⟨inK8 132 rfl rfl, inK1 12 (by decide +kernel) rfl, by decide +kernel, by decide⟩
theorem mk_X12_go : MK yX12_go cX12_go 4 (some (.int)) 2 := ⟨inK8 136 rfl rfl, inK1 12 (by decide +kernel) rfl, by decide +kernel, by decide⟩
theorem mk_X12_stitch : MK yX12_stitch cX12_stitch 4 (some (.int)) 2 := ⟨inK8 140 rfl rfl, inK1 12 (by decide +kernel) rfl, by decide +kernel, by decide⟩
theorem mk_X12_thread : MK yX12_thread cX12_thread 3 (some (.int)) 2 := ⟨inK8 144 rfl rfl, inK1 12 (by decide +kernel) rfl, by decide +kernel, by decide⟩
theorem mk_X12_tear : MK yX12_tear cX12_tear 3 (some (.int)) 2 := ⟨inK8 148 rfl rfl, inK1 12 (by decide +kernel) rfl, by decide +kernel, by decide⟩
theorem mk_X12_then : MK yX12_then cX12_then 4 (some (.int)) 3 := ⟨inK8 152 rfl rfl, inK1 12 (by decide +kernel) rfl, by decide +kernel, by decide⟩
theorem mk_X12_isDays : MK yX12_isDays cX12_isDays 4 (some (.boolean)) 3 := ⟨inK8 156 rfl rfl, inK1 12 (by decide +kernel) rfl, by decide +kernel, by decide⟩
theorem mk_X12_goesTo : MK yX12_goesTo cX12_goesTo 2 none 1 := ⟨inK8 160 rfl rfl, inK1 12 (by decide +kernel) rfl, by decide +kernel, by decide⟩
theorem mk_X12_tries : MK yX12_tries cX12_tries 2 none 0 := ⟨inK8 164 rfl rfl, inK1 12 (by decide +kernel) rfl, by decide +kernel, by decide⟩
theorem mk_X12_daysGo : MK yX12_daysGo cX12_daysGo 3 none 1 := ⟨inK8 168 rfl rfl, inK1 12 (by decide +kernel) rfl, by decide +kernel, by decide⟩
theorem mk_X12_later : MK yX12_later cX12_later 3 (some (.int)) 2 := ⟨inK8 172 rfl rfl, inK1 12 (by decide +kernel) rfl, by decide +kernel, by decide⟩
theorem mk_X12_extreme : MK yX12_extreme cX12_extreme 5 (some (.int)) 2 := ⟨inK8 176 rfl rfl, inK1 12 (by decide +kernel) rfl, by decide +kernel, by decide⟩
theorem mk_X12_opens : MK yX12_opens cX12_opens 3 (some (.int)) 1 := ⟨inK8 180 rfl rfl, inK1 12 (by decide +kernel) rfl, by decide +kernel, by decide⟩
theorem mk_X12_opensIn : MK yX12_opensIn cX12_opensIn 3 (some (.int)) 1 := ⟨inK8 184 rfl rfl, inK1 12 (by decide +kernel) rfl, by decide +kernel, by decide⟩
theorem mk_X12_first : MK yX12_first cX12_first 5 (some (.int)) 0 := ⟨inK8 189 rfl rfl, inK1 12 (by decide +kernel) rfl, by decide +kernel, by decide⟩
theorem mk_X12_where : MK yX12_where cX12_where 4 (some (.int)) 3 := ⟨inK8 193 rfl rfl, inK1 12 (by decide +kernel) rfl, by decide +kernel, by decide⟩
theorem mk_X12_spent : MK yX12_spent cX12_spent 2 (some (.int)) 0 := ⟨inK8 197 rfl rfl, inK1 12 (by decide +kernel) rfl, by decide +kernel, by decide⟩
theorem mk_X12_toHold : MK yX12_toHold cX12_toHold 6 (some (.int)) 2 := ⟨inK8 201 rfl rfl, inK1 12 (by decide +kernel) rfl, by decide +kernel, by decide⟩
theorem mk_X12_toSend : MK yX12_toSend cX12_toSend 8 (some (.int)) 3 := ⟨inK8 205 rfl rfl, inK1 12 (by decide +kernel) rfl, by decide +kernel, by decide⟩
theorem mk_X12_bestStitch : MK yX12_bestStitch cX12_bestStitch 6 (some (.int)) 2 := ⟨inK8 209 rfl rfl, inK1 12 (by decide +kernel) rfl, by decide +kernel, by decide⟩
theorem mk_X12_sent : MK yX12_sent cX12_sent 8 (some (.int)) 2 := ⟨inK8 213 rfl rfl, inK1 12 (by decide +kernel) rfl, by decide +kernel, by decide⟩
theorem mk_X12_byWoman : MK yX12_byWoman cX12_byWoman 4 (some (.int)) 3 := ⟨inK8 217 rfl rfl, inK1 12 (by decide +kernel) rfl, by decide +kernel, by decide⟩
theorem mk_X12_stepsBy : MK yX12_stepsBy cX12_stepsBy 4 (some (.int)) 2 := ⟨inK8 221 rfl rfl, inK1 12 (by decide +kernel) rfl, by decide +kernel, by decide⟩
theorem mk_X12_closed : MK yX12_closed cX12_closed 6 (some (.int)) 1 := ⟨inK8 225 rfl rfl, inK1 12 (by decide +kernel) rfl, by decide +kernel, by decide⟩
theorem mk_X12_tight : MK yX12_tight cX12_tight 8 (some (.int)) 2 := ⟨inK8 229 rfl rfl, inK1 12 (by decide +kernel) rfl, by decide +kernel, by decide⟩
theorem mk_X12_gaps : MK yX12_gaps cX12_gaps 3 (some (.int)) 0 := ⟨inK8 233 rfl rfl, inK1 12 (by decide +kernel) rfl, by decide +kernel, by decide⟩
theorem mk_X12_readings : MK yX12_readings cX12_readings 7 (some (.int)) 2 := ⟨inK8 237 rfl rfl, inK1 12 (by decide +kernel) rfl, by decide +kernel, by decide⟩
theorem mk_X12_isHere : MK yX12_isHere cX12_isHere 6 (some (.boolean)) 3 := ⟨inK9 2 rfl rfl, inK1 12 (by decide +kernel) rfl, by decide +kernel, by decide⟩
theorem mk_X12_see : MK yX12_see cX12_see 4 (some (.int)) 3 := ⟨inK9 6 rfl rfl, inK1 12 (by decide +kernel) rfl, by decide +kernel, by decide⟩
theorem mk_X12_forget : MK yX12_forget cX12_forget 1 none 0 := ⟨inK9 10 rfl rfl, inK1 12 (by decide +kernel) rfl, by decide +kernel, by decide⟩
theorem mk_X12_torn : MK yX12_torn cX12_torn 5 (some (.int)) 1 := ⟨inK9 14 rfl rfl, inK1 12 (by decide +kernel) rfl, by decide +kernel, by decide⟩
theorem mk_X12_isSeen : MK yX12_isSeen cX12_isSeen 3 (some (.boolean)) 0 := ⟨inK9 18 rfl rfl, inK1 12 (by decide +kernel) rfl, by decide +kernel, by decide⟩
theorem mk_X12_isGuess : MK yX12_isGuess cX12_isGuess 3 (some (.boolean)) 1 := ⟨inK9 22 rfl rfl, inK1 12 (by decide +kernel) rfl, by decide +kernel, by decide⟩
theorem mk_X12_look : MK yX12_look cX12_look 10 (some (.int)) 1 := ⟨inK9 26 rfl rfl, inK1 12 (by decide +kernel) rfl, by decide +kernel, by decide⟩
theorem mk_X12_gales : MK yX12_gales cX12_gales 9 (some (.int)) 2 := ⟨inK9 30 rfl rfl, inK1 12 (by decide +kernel) rfl, by decide +kernel, by decide⟩
theorem mk_X12_game : MK yX12_game cX12_game 9 (some (.int)) 3 := ⟨inK9 34 rfl rfl, inK1 12 (by decide +kernel) rfl, by decide +kernel, by decide⟩
theorem mk_X12_gains : MK yX12_gains cX12_gains 5 (some (.int)) 4 := ⟨inK9 38 rfl rfl, inK1 12 (by decide +kernel) rfl, by decide +kernel, by decide⟩
theorem mk_X12_plays : MK yX12_plays cX12_plays 3 none 2 := ⟨inK9 42 rfl rfl, inK1 12 (by decide +kernel) rfl, by decide +kernel, by decide⟩
theorem mk_X12_years : MK yX12_years cX12_years 5 (some (.int)) 3 := ⟨inK9 46 rfl rfl, inK1 12 (by decide +kernel) rfl, by decide +kernel, by decide⟩
theorem mk_X12_happens : MK yX12_happens cX12_happens 4 none 0 := ⟨inK9 50 rfl rfl, inK1 12 (by decide +kernel) rfl, by decide +kernel, by decide⟩
theorem mk_X12_draw : MK yX12_draw cX12_draw 2 (some (.int)) 1 := ⟨inK9 54 rfl rfl, inK1 12 (by decide +kernel) rfl, by decide +kernel, by decide⟩
theorem mk_X12_steady : MK yX12_steady cX12_steady 4 (some (.int)) 0 := ⟨inK9 59 rfl rfl, inK1 12 (by decide +kernel) rfl, by decide +kernel, by decide⟩
theorem mk_X12_nearest : MK yX12_nearest cX12_nearest 4 (some (.int)) 1 := ⟨inK9 63 rfl rfl, inK1 12 (by decide +kernel) rfl, by decide +kernel, by decide⟩
theorem mk_X12_far : MK yX12_far cX12_far 3 (some (.int)) 2 := ⟨inK9 67 rfl rfl, inK1 12 (by decide +kernel) rfl, by decide +kernel, by decide⟩
theorem mk_X12_worst : MK yX12_worst cX12_worst 6 (some (.int)) 1 := ⟨inK9 71 rfl rfl, inK1 12 (by decide +kernel) rfl, by decide +kernel, by decide⟩
theorem mk_X12_meet : MK yX12_meet cX12_meet 4 (some (.int)) 2 := ⟨inK9 75 rfl rfl, inK1 12 (by decide +kernel) rfl, by decide +kernel, by decide⟩
theorem mk_X12_bare : MK yX12_bare cX12_bare 4 (some (.int)) 1 := ⟨inK9 79 rfl rfl, inK1 12 (by decide +kernel) rfl, by decide +kernel, by decide⟩
theorem mk_X12_load : MK yX12_load cX12_load 4 (some (.int)) 1 := ⟨inK9 83 rfl rfl, inK1 12 (by decide +kernel) rfl, by decide +kernel, by decide⟩
theorem mk_X12_image : MK yX12_image cX12_image 2 none 0 := ⟨inK9 87 rfl rfl, inK1 12 (by decide +kernel) rfl, by decide +kernel, by decide⟩
theorem mk_X12_restore : MK yX12_restore cX12_restore 2 (some (.boolean)) 0 := ⟨inK9 91 rfl rfl, inK1 12 (by decide +kernel) rfl, by decide +kernel, by decide⟩
theorem im_X11_init : Cond.instanceMethod yX11_init ∈ lwG := inK1 31 (by decide +kernel) rfl
theorem im_X9_init : Cond.instanceMethod yX9_init ∈ lwG := inK1 39 (by decide +kernel) rfl
theorem im_X1_init : Cond.instanceMethod yX1_init ∈ lwG := inK1 45 (by decide +kernel) rfl
theorem im_X6_init : Cond.instanceMethod yX6_init ∈ lwG := inK1 77 (by decide +kernel) rfl
theorem im_X3_init : Cond.instanceMethod yX3_init ∈ lwG := inK1 157 (by decide +kernel) rfl
theorem im_X2_init : Cond.instanceMethod yX2_init ∈ lwG := inK1 163 (by decide +kernel) rfl
theorem im_X4_init : Cond.instanceMethod yX4_init ∈ lwG := inK1 200 (by decide +kernel) rfl
theorem im_X7_init : Cond.instanceMethod yX7_init ∈ lwG := inK1 217 (by decide +kernel) rfl
theorem im_X0_init : Cond.instanceMethod yX0_init ∈ lwG := inK2 14 (by decide +kernel) rfl
theorem im_X8_init : Cond.instanceMethod yX8_init ∈ lwG := inK2 44 (by decide +kernel) rfl
theorem sm_X11_fillUp : Cond.static yX11_fillUp ∈ lwG := inK2 58 (by decide +kernel) rfl
theorem im_X2_putStretch : Cond.instanceMethod yX2_putStretch ∈ lwG := inK2 61 (by decide +kernel) rfl
theorem se_X2_putStretch : Cond.selects yX2_putStretch.cls yX2_putStretch yX2_putStretch ∈ lwG := inK2 62 (by decide +kernel) rfl
theorem sm_J9_max_7cf53 : Cond.static yJ9_max_7cf53 ∈ lwG := inK2 65 (by decide +kernel) rfl
theorem im_X11_feed : Cond.instanceMethod yX11_feed ∈ lwG := inK2 120 (by decide +kernel) rfl
theorem se_X11_feed : Cond.selects yX11_feed.cls yX11_feed yX11_feed ∈ lwG := inK2 121 (by decide +kernel) rfl
theorem im_X11_putBytes : Cond.instanceMethod yX11_putBytes ∈ lwG := inK2 125 (by decide +kernel) rfl
theorem se_X11_putBytes : Cond.selects yX11_putBytes.cls yX11_putBytes yX11_putBytes ∈ lwG := inP 0 (by decide +kernel) rfl
theorem im_X11_fault : Cond.instanceMethod yX11_fault ∈ lwG := inK2 128 (by decide +kernel) rfl
theorem se_X11_fault : Cond.selects yX11_fault.cls yX11_fault yX11_fault ∈ lwG := inK2 129 (by decide +kernel) rfl
theorem im_X11_days : Cond.instanceMethod yX11_days ∈ lwG := inK2 132 (by decide +kernel) rfl
theorem se_X11_days : Cond.selects yX11_days.cls yX11_days yX11_days ∈ lwG := inK2 133 (by decide +kernel) rfl
theorem im_X11_refuseAct : Cond.instanceMethod yX11_refuseAct ∈ lwG := inK2 137 (by decide +kernel) rfl
theorem se_X11_refuseAct : Cond.selects yX11_refuseAct.cls yX11_refuseAct yX11_refuseAct ∈ lwG := inP 1 (by decide +kernel) rfl
theorem im_X4_keep : Cond.instanceMethod yX4_keep ∈ lwG := inK2 140 (by decide +kernel) rfl
theorem se_X4_keep : Cond.selects yX4_keep.cls yX4_keep yX4_keep ∈ lwG := inK2 141 (by decide +kernel) rfl
theorem im_X4_placeOf : Cond.instanceMethod yX4_placeOf ∈ lwG := inK2 145 (by decide +kernel) rfl
theorem se_X4_placeOf : Cond.selects yX4_placeOf.cls yX4_placeOf yX4_placeOf ∈ lwG := inP 2 (by decide +kernel) rfl
theorem im_X2_writeTo : Cond.instanceMethod yX2_writeTo ∈ lwG := inK2 148 (by decide +kernel) rfl
theorem se_X2_writeTo : Cond.selects yX2_writeTo.cls yX2_writeTo yX2_writeTo ∈ lwG := inK2 149 (by decide +kernel) rfl
theorem im_X2_passDays : Cond.instanceMethod yX2_passDays ∈ lwG := inK2 155 (by decide +kernel) rfl
theorem se_X2_passDays : Cond.selects yX2_passDays.cls yX2_passDays yX2_passDays ∈ lwG := inK2 156 (by decide +kernel) rfl
theorem im_X2_passDay : Cond.instanceMethod yX2_passDay ∈ lwG := inK2 159 (by decide +kernel) rfl
theorem se_X2_passDay : Cond.selects yX2_passDay.cls yX2_passDay yX2_passDay ∈ lwG := inK2 160 (by decide +kernel) rfl
theorem im_X2_isOpen : Cond.instanceMethod yX2_isOpen ∈ lwG := inK2 163 (by decide +kernel) rfl
theorem se_X2_isOpen : Cond.selects yX2_isOpen.cls yX2_isOpen yX2_isOpen ∈ lwG := inK2 164 (by decide +kernel) rfl
theorem im_X2_pullsBy : Cond.instanceMethod yX2_pullsBy ∈ lwG := inK2 167 (by decide +kernel) rfl
theorem se_X2_pullsBy : Cond.selects yX2_pullsBy.cls yX2_pullsBy yX2_pullsBy ∈ lwG := inK2 168 (by decide +kernel) rfl
theorem im_X9_worthOf : Cond.instanceMethod yX9_worthOf ∈ lwG := inK2 171 (by decide +kernel) rfl
theorem se_X9_worthOf : Cond.selects yX9_worthOf.cls yX9_worthOf yX9_worthOf ∈ lwG := inK2 172 (by decide +kernel) rfl
theorem im_X2_valueOf : Cond.instanceMethod yX2_valueOf ∈ lwG := inK2 175 (by decide +kernel) rfl
theorem se_X2_valueOf : Cond.selects yX2_valueOf.cls yX2_valueOf yX2_valueOf ∈ lwG := inK2 176 (by decide +kernel) rfl
theorem im_X2_besideOf : Cond.instanceMethod yX2_besideOf ∈ lwG := inK2 180 (by decide +kernel) rfl
theorem se_X2_besideOf : Cond.selects yX2_besideOf.cls yX2_besideOf yX2_besideOf ∈ lwG := inP 3 (by decide +kernel) rfl
theorem im_X2_womenBits : Cond.instanceMethod yX2_womenBits ∈ lwG := inK2 183 (by decide +kernel) rfl
theorem se_X2_womenBits : Cond.selects yX2_womenBits.cls yX2_womenBits yX2_womenBits ∈ lwG := inK2 184 (by decide +kernel) rfl
theorem sm_J6_bitCount_0f7a4 : Cond.static yJ6_bitCount_0f7a4 ∈ lwG := inK2 187 (by decide +kernel) rfl
theorem sm_X9_join : Cond.static yX9_join ∈ lwG := inK2 193 (by decide +kernel) rfl
theorem sm_X11_within : Cond.static yX11_within ∈ lwG := inK2 196 (by decide +kernel) rfl
theorem sm_J9_min_7cf53 : Cond.static yJ9_min_7cf53 ∈ lwG := inK2 199 (by decide +kernel) rfl
theorem im_X2_fraysBy : Cond.instanceMethod yX2_fraysBy ∈ lwG := inK2 202 (by decide +kernel) rfl
theorem se_X2_fraysBy : Cond.selects yX2_fraysBy.cls yX2_fraysBy yX2_fraysBy ∈ lwG := inK2 203 (by decide +kernel) rfl
theorem im_X2_fraysUntold : Cond.instanceMethod yX2_fraysUntold ∈ lwG := inK2 207 (by decide +kernel) rfl
theorem se_X2_fraysUntold : Cond.selects yX2_fraysUntold.cls yX2_fraysUntold yX2_fraysUntold ∈ lwG := inP 4 (by decide +kernel) rfl
theorem im_X2_wear : Cond.instanceMethod yX2_wear ∈ lwG := inK2 211 (by decide +kernel) rfl
theorem se_X2_wear : Cond.selects yX2_wear.cls yX2_wear yX2_wear ∈ lwG := inP 5 (by decide +kernel) rfl
theorem im_X9_ahead : Cond.instanceMethod yX9_ahead ∈ lwG := inK2 215 (by decide +kernel) rfl
theorem se_X9_ahead : Cond.selects yX9_ahead.cls yX9_ahead yX9_ahead ∈ lwG := inK2 216 (by decide +kernel) rfl
theorem im_X2_strainIfClosed : Cond.instanceMethod yX2_strainIfClosed ∈ lwG := inK2 220 (by decide +kernel) rfl
theorem se_X2_strainIfClosed : Cond.selects yX2_strainIfClosed.cls yX2_strainIfClosed yX2_strainIfClosed ∈ lwG := inP 6 (by decide +kernel) rfl
theorem im_X2_addStrain : Cond.instanceMethod yX2_addStrain ∈ lwG := inK2 223 (by decide +kernel) rfl
theorem se_X2_addStrain : Cond.selects yX2_addStrain.cls yX2_addStrain yX2_addStrain ∈ lwG := inK2 224 (by decide +kernel) rfl
theorem im_X9_after : Cond.instanceMethod yX9_after ∈ lwG := inK2 228 (by decide +kernel) rfl
theorem se_X9_after : Cond.selects yX9_after.cls yX9_after yX9_after ∈ lwG := inK2 229 (by decide +kernel) rfl
theorem im_X9_isThursday : Cond.instanceMethod yX9_isThursday ∈ lwG := inK2 232 (by decide +kernel) rfl
theorem se_X9_isThursday : Cond.selects yX9_isThursday.cls yX9_isThursday yX9_isThursday ∈ lwG := inK2 233 (by decide +kernel) rfl
theorem im_X2_mendAll : Cond.instanceMethod yX2_mendAll ∈ lwG := inK2 237 (by decide +kernel) rfl
theorem se_X2_mendAll : Cond.selects yX2_mendAll.cls yX2_mendAll yX2_mendAll ∈ lwG := inP 7 (by decide +kernel) rfl
theorem im_X2_mendBy : Cond.instanceMethod yX2_mendBy ∈ lwG := inK3 0 (by decide +kernel) rfl
theorem se_X2_mendBy : Cond.selects yX2_mendBy.cls yX2_mendBy yX2_mendBy ∈ lwG := inK3 1 (by decide +kernel) rfl
theorem im_X2_goOn : Cond.instanceMethod yX2_goOn ∈ lwG := inK3 4 (by decide +kernel) rfl
theorem se_X2_goOn : Cond.selects yX2_goOn.cls yX2_goOn yX2_goOn ∈ lwG := inK3 5 (by decide +kernel) rfl
theorem im_X11_undo : Cond.instanceMethod yX11_undo ∈ lwG := inK3 8 (by decide +kernel) rfl
theorem se_X11_undo : Cond.selects yX11_undo.cls yX11_undo yX11_undo ∈ lwG := inK3 9 (by decide +kernel) rfl
theorem im_X4_takeBack : Cond.instanceMethod yX4_takeBack ∈ lwG := inK3 12 (by decide +kernel) rfl
theorem se_X4_takeBack : Cond.selects yX4_takeBack.cls yX4_takeBack yX4_takeBack ∈ lwG := inK3 13 (by decide +kernel) rfl
theorem im_X2_readFrom : Cond.instanceMethod yX2_readFrom ∈ lwG := inK3 16 (by decide +kernel) rfl
theorem se_X2_readFrom : Cond.selects yX2_readFrom.cls yX2_readFrom yX2_readFrom ∈ lwG := inK3 17 (by decide +kernel) rfl
theorem im_X11_first : Cond.instanceMethod yX11_first ∈ lwG := inK3 20 (by decide +kernel) rfl
theorem se_X11_first : Cond.selects yX11_first.cls yX11_first yX11_first ∈ lwG := inK3 21 (by decide +kernel) rfl
theorem im_X2_copyFrom : Cond.instanceMethod yX2_copyFrom ∈ lwG := inK3 24 (by decide +kernel) rfl
theorem se_X2_copyFrom : Cond.selects yX2_copyFrom.cls yX2_copyFrom yX2_copyFrom ∈ lwG := inK3 25 (by decide +kernel) rfl
theorem im_X2_openBits : Cond.instanceMethod yX2_openBits ∈ lwG := inK3 28 (by decide +kernel) rfl
theorem se_X2_openBits : Cond.selects yX2_openBits.cls yX2_openBits yX2_openBits ∈ lwG := inK3 29 (by decide +kernel) rfl
theorem sm_X11_leastBit : Cond.static yX11_leastBit ∈ lwG := inK3 33 (by decide +kernel) rfl
theorem im_X11_spent : Cond.instanceMethod yX11_spent ∈ lwG := inK3 36 (by decide +kernel) rfl
theorem se_X11_spent : Cond.selects yX11_spent.cls yX11_spent yX11_spent ∈ lwG := inK3 37 (by decide +kernel) rfl
theorem im_X2_threadOfAll : Cond.instanceMethod yX2_threadOfAll ∈ lwG := inK3 40 (by decide +kernel) rfl
theorem se_X2_threadOfAll : Cond.selects yX2_threadOfAll.cls yX2_threadOfAll yX2_threadOfAll ∈ lwG := inK3 41 (by decide +kernel) rfl
theorem im_X11_steady : Cond.instanceMethod yX11_steady ∈ lwG := inK3 44 (by decide +kernel) rfl
theorem se_X11_steady : Cond.selects yX11_steady.cls yX11_steady yX11_steady ∈ lwG := inK3 45 (by decide +kernel) rfl
theorem im_X2_isLike : Cond.instanceMethod yX2_isLike ∈ lwG := inK3 48 (by decide +kernel) rfl
theorem se_X2_isLike : Cond.selects yX2_isLike.cls yX2_isLike yX2_isLike ∈ lwG := inK3 49 (by decide +kernel) rfl
theorem im_X11_gaps : Cond.instanceMethod yX11_gaps ∈ lwG := inK3 52 (by decide +kernel) rfl
theorem se_X11_gaps : Cond.selects yX11_gaps.cls yX11_gaps yX11_gaps ∈ lwG := inK3 53 (by decide +kernel) rfl
theorem im_X11_rowsOf : Cond.instanceMethod yX11_rowsOf ∈ lwG := inK3 57 (by decide +kernel) rfl
theorem se_X11_rowsOf : Cond.selects yX11_rowsOf.cls yX11_rowsOf yX11_rowsOf ∈ lwG := inP 8 (by decide +kernel) rfl
theorem im_X11_forget : Cond.instanceMethod yX11_forget ∈ lwG := inK3 61 (by decide +kernel) rfl
theorem se_X11_forget : Cond.selects yX11_forget.cls yX11_forget yX11_forget ∈ lwG := inK3 62 (by decide +kernel) rfl
theorem im_X7_clear : Cond.instanceMethod yX7_clear ∈ lwG := inK3 65 (by decide +kernel) rfl
theorem se_X7_clear : Cond.selects yX7_clear.cls yX7_clear yX7_clear ∈ lwG := inK3 66 (by decide +kernel) rfl
theorem im_X11_image : Cond.instanceMethod yX11_image ∈ lwG := inK3 69 (by decide +kernel) rfl
theorem se_X11_image : Cond.selects yX11_image.cls yX11_image yX11_image ∈ lwG := inK3 70 (by decide +kernel) rfl
theorem im_X3_copyFrom : Cond.instanceMethod yX3_copyFrom ∈ lwG := inK3 73 (by decide +kernel) rfl
theorem se_X3_copyFrom : Cond.selects yX3_copyFrom.cls yX3_copyFrom yX3_copyFrom ∈ lwG := inK3 74 (by decide +kernel) rfl
theorem im_X4_copyFrom : Cond.instanceMethod yX4_copyFrom ∈ lwG := inK3 78 (by decide +kernel) rfl
theorem se_X4_copyFrom : Cond.selects yX4_copyFrom.cls yX4_copyFrom yX4_copyFrom ∈ lwG := inK3 79 (by decide +kernel) rfl
theorem im_X7_copyFrom : Cond.instanceMethod yX7_copyFrom ∈ lwG := inK3 83 (by decide +kernel) rfl
theorem se_X7_copyFrom : Cond.selects yX7_copyFrom.cls yX7_copyFrom yX7_copyFrom ∈ lwG := inK3 84 (by decide +kernel) rfl
theorem im_X11_restore : Cond.instanceMethod yX11_restore ∈ lwG := inK3 88 (by decide +kernel) rfl
theorem se_X11_restore : Cond.selects yX11_restore.cls yX11_restore yX11_restore ∈ lwG := inK3 89 (by decide +kernel) rfl
theorem sm_L_ring : Cond.static yL_ring ∈ lwG := inK3 92 (by decide +kernel) rfl
theorem im_X11_ring : Cond.instanceMethod yX11_ring ∈ lwG := inK3 96 (by decide +kernel) rfl
theorem se_X11_ring : Cond.selects yX11_ring.cls yX11_ring yX11_ring ∈ lwG := inK3 97 (by decide +kernel) rfl
theorem im_X9_clear : Cond.instanceMethod yX9_clear ∈ lwG := inK3 166 (by decide +kernel) rfl
theorem se_X9_clear : Cond.selects yX9_clear.cls yX9_clear yX9_clear ∈ lwG := inK3 167 (by decide +kernel) rfl
theorem im_X6_clear : Cond.instanceMethod yX6_clear ∈ lwG := inK3 170 (by decide +kernel) rfl
theorem se_X6_clear : Cond.selects yX6_clear.cls yX6_clear yX6_clear ∈ lwG := inK3 171 (by decide +kernel) rfl
theorem im_X5_init : Cond.instanceMethod yX5_init ∈ lwG := inK3 176 (by decide +kernel) rfl
theorem im_X5_readText : Cond.instanceMethod yX5_readText ∈ lwG := inK3 217 (by decide +kernel) rfl
theorem se_X5_readText : Cond.selects yX5_readText.cls yX5_readText yX5_readText ∈ lwG := inK3 218 (by decide +kernel) rfl
theorem im_X5_takeToken : Cond.instanceMethod yX5_takeToken ∈ lwG := inK3 222 (by decide +kernel) rfl
theorem se_X5_takeToken : Cond.selects yX5_takeToken.cls yX5_takeToken yX5_takeToken ∈ lwG := inP 10 (by decide +kernel) rfl
theorem im_X5_kindAt : Cond.instanceMethod yX5_kindAt ∈ lwG := inK3 226 (by decide +kernel) rfl
theorem se_X5_kindAt : Cond.selects yX5_kindAt.cls yX5_kindAt yX5_kindAt ∈ lwG := inP 11 (by decide +kernel) rfl
theorem im_X5_weighNumber : Cond.instanceMethod yX5_weighNumber ∈ lwG := inK3 230 (by decide +kernel) rfl
theorem se_X5_weighNumber : Cond.selects yX5_weighNumber.cls yX5_weighNumber yX5_weighNumber ∈ lwG := inP 12 (by decide +kernel) rfl
theorem im_X5_readLine : Cond.instanceMethod yX5_readLine ∈ lwG := inK3 234 (by decide +kernel) rfl
theorem se_X5_readLine : Cond.selects yX5_readLine.cls yX5_readLine yX5_readLine ∈ lwG := inP 13 (by decide +kernel) rfl
theorem im_X5_isWord : Cond.instanceMethod yX5_isWord ∈ lwG := inK4 0 (by decide +kernel) rfl
theorem se_X5_isWord : Cond.selects yX5_isWord.cls yX5_isWord yX5_isWord ∈ lwG := inP 14 (by decide +kernel) rfl
theorem im_X10_isSpelled : Cond.instanceMethod yX10_isSpelled ∈ lwG := inK4 3 (by decide +kernel) rfl
theorem se_X10_isSpelled : Cond.selects yX10_isSpelled.cls yX10_isSpelled yX10_isSpelled ∈ lwG := inK4 4 (by decide +kernel) rfl
theorem im_J0_length_8abf5 : Cond.instanceMethod yJ0_length_8abf5 ∈ lwG := inK4 7 (by decide +kernel) rfl
theorem se_J0_length_8abf5 : Cond.selects yJ0_length_8abf5.cls yJ0_length_8abf5 yJ0_length_8abf5 ∈ lwG := inK4 8 (by decide +kernel) rfl
theorem im_J0_coder_7d493 : Cond.instanceMethod yJ0_coder_7d493 ∈ lwG := inK4 11 (by decide +kernel) rfl
theorem se_J0_coder_7d493 : Cond.selects yJ0_coder_7d493.cls yJ0_coder_7d493 yJ0_coder_7d493 ∈ lwG := inK4 12 (by decide +kernel) rfl
theorem im_J0_charAt_5068e : Cond.instanceMethod yJ0_charAt_5068e ∈ lwG := inK4 17 (by decide +kernel) rfl
theorem se_J0_charAt_5068e : Cond.selects yJ0_charAt_5068e.cls yJ0_charAt_5068e yJ0_charAt_5068e ∈ lwG := inK4 18 (by decide +kernel) rfl
theorem im_J0_isLatin1_aae02 : Cond.instanceMethod yJ0_isLatin1_aae02 ∈ lwG := inK4 21 (by decide +kernel) rfl
theorem se_J0_isLatin1_aae02 : Cond.selects yJ0_isLatin1_aae02.cls yJ0_isLatin1_aae02 yJ0_isLatin1_aae02 ∈ lwG := inK4 22 (by decide +kernel) rfl
theorem sm_J1_charAt_3b067 : Cond.static yJ1_charAt_3b067 ∈ lwG := inK4 25 (by decide +kernel) rfl
theorem sm_J0_checkIndex_df160 : Cond.static yJ0_checkIndex_df160 ∈ lwG := inK4 28 (by decide +kernel) rfl
theorem sm_J3_checkIndex_8e157 : Cond.static yJ3_checkIndex_8e157 ∈ lwG := inK4 33 (by decide +kernel) rfl
theorem sm_J2_charAt_3b067 : Cond.static yJ2_charAt_3b067 ∈ lwG := inK4 36 (by decide +kernel) rfl
theorem sm_J2_checkIndex_2214a : Cond.static yJ2_checkIndex_2214a ∈ lwG := inK4 39 (by decide +kernel) rfl
theorem sm_J2_length_9d52b : Cond.static yJ2_length_9d52b ∈ lwG := inK4 42 (by decide +kernel) rfl
theorem sm_J2_getChar_3b067 : Cond.static yJ2_getChar_3b067 ∈ lwG := inK4 46 (by decide +kernel) rfl
theorem im_X5_readStretch : Cond.instanceMethod yX5_readStretch ∈ lwG := inK4 56 (by decide +kernel) rfl
theorem se_X5_readStretch : Cond.selects yX5_readStretch.cls yX5_readStretch yX5_readStretch ∈ lwG := inP 15 (by decide +kernel) rfl
theorem im_X5_fail : Cond.instanceMethod yX5_fail ∈ lwG := inK4 60 (by decide +kernel) rfl
theorem se_X5_fail : Cond.selects yX5_fail.cls yX5_fail yX5_fail ∈ lwG := inP 16 (by decide +kernel) rfl
theorem im_X5_isNumber : Cond.instanceMethod yX5_isNumber ∈ lwG := inK4 64 (by decide +kernel) rfl
theorem se_X5_isNumber : Cond.selects yX5_isNumber.cls yX5_isNumber yX5_isNumber ∈ lwG := inP 17 (by decide +kernel) rfl
theorem im_X5_passSign : Cond.instanceMethod yX5_passSign ∈ lwG := inK4 69 (by decide +kernel) rfl
theorem se_X5_passSign : Cond.selects yX5_passSign.cls yX5_passSign yX5_passSign ∈ lwG := inP 18 (by decide +kernel) rfl
theorem im_X5_isSign : Cond.instanceMethod yX5_isSign ∈ lwG := inK4 73 (by decide +kernel) rfl
theorem se_X5_isSign : Cond.selects yX5_isSign.cls yX5_isSign yX5_isSign ∈ lwG := inP 19 (by decide +kernel) rfl
theorem im_X5_readWoman : Cond.instanceMethod yX5_readWoman ∈ lwG := inK4 79 (by decide +kernel) rfl
theorem se_X5_readWoman : Cond.selects yX5_readWoman.cls yX5_readWoman yX5_readWoman ∈ lwG := inP 20 (by decide +kernel) rfl
theorem im_X5_isStretchTold : Cond.instanceMethod yX5_isStretchTold ∈ lwG := inK4 83 (by decide +kernel) rfl
theorem se_X5_isStretchTold : Cond.selects yX5_isStretchTold.cls yX5_isStretchTold yX5_isStretchTold ∈ lwG := inP 21 (by decide +kernel) rfl
theorem im_X2_putWoman : Cond.instanceMethod yX2_putWoman ∈ lwG := inK4 86 (by decide +kernel) rfl
theorem se_X2_putWoman : Cond.selects yX2_putWoman.cls yX2_putWoman yX2_putWoman ∈ lwG := inK4 87 (by decide +kernel) rfl
theorem im_X5_readKnots : Cond.instanceMethod yX5_readKnots ∈ lwG := inK4 93 (by decide +kernel) rfl
theorem se_X5_readKnots : Cond.selects yX5_readKnots.cls yX5_readKnots yX5_readKnots ∈ lwG := inP 22 (by decide +kernel) rfl
theorem im_X1_has : Cond.instanceMethod yX1_has ∈ lwG := inK4 96 (by decide +kernel) rfl
theorem se_X1_has : Cond.selects yX1_has.cls yX1_has yX1_has ∈ lwG := inK4 97 (by decide +kernel) rfl
theorem im_X1_tie : Cond.instanceMethod yX1_tie ∈ lwG := inK4 100 (by decide +kernel) rfl
theorem se_X1_tie : Cond.selects yX1_tie.cls yX1_tie yX1_tie ∈ lwG := inK4 101 (by decide +kernel) rfl
theorem im_X5_readWeek : Cond.instanceMethod yX5_readWeek ∈ lwG := inK4 107 (by decide +kernel) rfl
theorem se_X5_readWeek : Cond.selects yX5_readWeek.cls yX5_readWeek yX5_readWeek ∈ lwG := inP 23 (by decide +kernel) rfl
theorem im_X5_readRule : Cond.instanceMethod yX5_readRule ∈ lwG := inK4 113 (by decide +kernel) rfl
theorem se_X5_readRule : Cond.selects yX5_readRule.cls yX5_readRule yX5_readRule ∈ lwG := inP 24 (by decide +kernel) rfl
theorem im_X9_begin : Cond.instanceMethod yX9_begin ∈ lwG := inK4 116 (by decide +kernel) rfl
theorem se_X9_begin : Cond.selects yX9_begin.cls yX9_begin yX9_begin ∈ lwG := inK4 117 (by decide +kernel) rfl
theorem im_X5_readExpr : Cond.instanceMethod yX5_readExpr ∈ lwG := inK4 121 (by decide +kernel) rfl
theorem se_X5_readExpr : Cond.selects yX5_readExpr.cls yX5_readExpr yX5_readExpr ∈ lwG := inP 25 (by decide +kernel) rfl
theorem im_X5_readRank : Cond.instanceMethod yX5_readRank ∈ lwG := inK4 125 (by decide +kernel) rfl
theorem se_X5_readRank : Cond.selects yX5_readRank.cls yX5_readRank yX5_readRank ∈ lwG := inP 26 (by decide +kernel) rfl
theorem im_X5_readPart : Cond.instanceMethod yX5_readPart ∈ lwG := inK4 129 (by decide +kernel) rfl
theorem se_X5_readPart : Cond.selects yX5_readPart.cls yX5_readPart yX5_readPart ∈ lwG := inP 27 (by decide +kernel) rfl
theorem sm_X10_of : Cond.static yX10_of ∈ lwG := inK4 132 (by decide +kernel) rfl
theorem im_X9_append : Cond.instanceMethod yX9_append ∈ lwG := inK4 140 (by decide +kernel) rfl
theorem se_X9_append : Cond.selects yX9_append.cls yX9_append yX9_append ∈ lwG := inK4 141 (by decide +kernel) rfl
theorem im_X5_passNots : Cond.instanceMethod yX5_passNots ∈ lwG := inK4 145 (by decide +kernel) rfl
theorem se_X5_passNots : Cond.selects yX5_passNots.cls yX5_passNots yX5_passNots ∈ lwG := inP 28 (by decide +kernel) rfl
theorem im_X5_joint : Cond.instanceMethod yX5_joint ∈ lwG := inK4 151 (by decide +kernel) rfl
theorem se_X5_joint : Cond.selects yX5_joint.cls yX5_joint yX5_joint ∈ lwG := inP 29 (by decide +kernel) rfl
theorem im_X9_end : Cond.instanceMethod yX9_end ∈ lwG := inK4 158 (by decide +kernel) rfl
theorem se_X9_end : Cond.selects yX9_end.cls yX9_end yX9_end ∈ lwG := inK4 159 (by decide +kernel) rfl
theorem im_X4_clear : Cond.instanceMethod yX4_clear ∈ lwG := inK4 164 (by decide +kernel) rfl
theorem se_X4_clear : Cond.selects yX4_clear.cls yX4_clear yX4_clear ∈ lwG := inK4 165 (by decide +kernel) rfl
theorem sm_L_count : Cond.static yL_count ∈ lwG := inK4 168 (by decide +kernel) rfl
theorem im_X11_count : Cond.instanceMethod yX11_count ∈ lwG := inK4 172 (by decide +kernel) rfl
theorem se_X11_count : Cond.selects yX11_count.cls yX11_count yX11_count ∈ lwG := inK4 173 (by decide +kernel) rfl
theorem im_X2_seamOfAll : Cond.instanceMethod yX2_seamOfAll ∈ lwG := inK4 176 (by decide +kernel) rfl
theorem se_X2_seamOfAll : Cond.selects yX2_seamOfAll.cls yX2_seamOfAll yX2_seamOfAll ∈ lwG := inK4 177 (by decide +kernel) rfl
theorem im_X2_idleBits : Cond.instanceMethod yX2_idleBits ∈ lwG := inK4 180 (by decide +kernel) rfl
theorem se_X2_idleBits : Cond.selects yX2_idleBits.cls yX2_idleBits yX2_idleBits ∈ lwG := inK4 181 (by decide +kernel) rfl
theorem im_X2_bareBits : Cond.instanceMethod yX2_bareBits ∈ lwG := inK4 184 (by decide +kernel) rfl
theorem se_X2_bareBits : Cond.selects yX2_bareBits.cls yX2_bareBits yX2_bareBits ∈ lwG := inK4 185 (by decide +kernel) rfl
theorem sm_L_stretch : Cond.static yL_stretch ∈ lwG := inK4 204 (by decide +kernel) rfl
theorem im_X11_stretch : Cond.instanceMethod yX11_stretch ∈ lwG := inK4 207 (by decide +kernel) rfl
theorem se_X11_stretch : Cond.selects yX11_stretch.cls yX11_stretch yX11_stretch ∈ lwG := inK4 208 (by decide +kernel) rfl
theorem im_X11_needStretch : Cond.instanceMethod yX11_needStretch ∈ lwG := inK4 212 (by decide +kernel) rfl
theorem se_X11_needStretch : Cond.selects yX11_needStretch.cls yX11_needStretch yX11_needStretch ∈ lwG := inP 30 (by decide +kernel) rfl
theorem im_X11_isStretch : Cond.instanceMethod yX11_isStretch ∈ lwG := inK4 216 (by decide +kernel) rfl
theorem se_X11_isStretch : Cond.selects yX11_isStretch.cls yX11_isStretch yX11_isStretch ∈ lwG := inP 31 (by decide +kernel) rfl
theorem sm_L_woman : Cond.static yL_woman ∈ lwG := inK4 225 (by decide +kernel) rfl
theorem im_X11_woman : Cond.instanceMethod yX11_woman ∈ lwG := inK4 228 (by decide +kernel) rfl
theorem se_X11_woman : Cond.selects yX11_woman.cls yX11_woman yX11_woman ∈ lwG := inK4 229 (by decide +kernel) rfl
theorem im_X11_needWoman : Cond.instanceMethod yX11_needWoman ∈ lwG := inK4 233 (by decide +kernel) rfl
theorem se_X11_needWoman : Cond.selects yX11_needWoman.cls yX11_needWoman yX11_needWoman ∈ lwG := inP 32 (by decide +kernel) rfl
theorem sm_L_mend : Cond.static yL_mend ∈ lwG := inK4 238 (by decide +kernel) rfl
theorem im_X11_mend : Cond.instanceMethod yX11_mend ∈ lwG := inK5 1 (by decide +kernel) rfl
theorem se_X11_mend : Cond.selects yX11_mend.cls yX11_mend yX11_mend ∈ lwG := inK5 2 (by decide +kernel) rfl
theorem im_X2_seamWhere : Cond.instanceMethod yX2_seamWhere ∈ lwG := inK5 6 (by decide +kernel) rfl
theorem se_X2_seamWhere : Cond.selects yX2_seamWhere.cls yX2_seamWhere yX2_seamWhere ∈ lwG := inK5 7 (by decide +kernel) rfl
theorem sm_L_go : Cond.static yL_go ∈ lwG := inK5 10 (by decide +kernel) rfl
theorem im_X11_go : Cond.instanceMethod yX11_go ∈ lwG := inK5 13 (by decide +kernel) rfl
theorem se_X11_go : Cond.selects yX11_go.cls yX11_go yX11_go ∈ lwG := inK5 14 (by decide +kernel) rfl
theorem sm_L_stitch : Cond.static yL_stitch ∈ lwG := inK5 17 (by decide +kernel) rfl
theorem im_X11_stitch : Cond.instanceMethod yX11_stitch ∈ lwG := inK5 20 (by decide +kernel) rfl
theorem se_X11_stitch : Cond.selects yX11_stitch.cls yX11_stitch yX11_stitch ∈ lwG := inK5 21 (by decide +kernel) rfl
theorem sm_L_thread : Cond.static yL_thread ∈ lwG := inK5 24 (by decide +kernel) rfl
theorem im_X11_thread : Cond.instanceMethod yX11_thread ∈ lwG := inK5 27 (by decide +kernel) rfl
theorem se_X11_thread : Cond.selects yX11_thread.cls yX11_thread yX11_thread ∈ lwG := inK5 28 (by decide +kernel) rfl
theorem im_X2_giveThread : Cond.instanceMethod yX2_giveThread ∈ lwG := inK5 31 (by decide +kernel) rfl
theorem se_X2_giveThread : Cond.selects yX2_giveThread.cls yX2_giveThread yX2_giveThread ∈ lwG := inK5 32 (by decide +kernel) rfl
theorem sm_L_tear : Cond.static yL_tear ∈ lwG := inK5 35 (by decide +kernel) rfl
theorem im_X11_tear : Cond.instanceMethod yX11_tear ∈ lwG := inK5 38 (by decide +kernel) rfl
theorem se_X11_tear : Cond.selects yX11_tear.cls yX11_tear yX11_tear ∈ lwG := inK5 39 (by decide +kernel) rfl
theorem im_X2_tearOff : Cond.instanceMethod yX2_tearOff ∈ lwG := inK5 42 (by decide +kernel) rfl
theorem se_X2_tearOff : Cond.selects yX2_tearOff.cls yX2_tearOff yX2_tearOff ∈ lwG := inK5 43 (by decide +kernel) rfl
theorem sm_L_then : Cond.static yL_then ∈ lwG := inK5 46 (by decide +kernel) rfl
theorem im_X11_then : Cond.instanceMethod yX11_then ∈ lwG := inK5 49 (by decide +kernel) rfl
theorem se_X11_then : Cond.selects yX11_then.cls yX11_then yX11_then ∈ lwG := inK5 50 (by decide +kernel) rfl
theorem sm_X11_needWhat : Cond.static yX11_needWhat ∈ lwG := inK5 53 (by decide +kernel) rfl
theorem sm_X11_needDays : Cond.static yX11_needDays ∈ lwG := inK5 57 (by decide +kernel) rfl
theorem im_X11_lookAhead : Cond.instanceMethod yX11_lookAhead ∈ lwG := inK5 62 (by decide +kernel) rfl
theorem se_X11_lookAhead : Cond.selects yX11_lookAhead.cls yX11_lookAhead yX11_lookAhead ∈ lwG := inP 33 (by decide +kernel) rfl
theorem sm_L_later : Cond.static yL_later ∈ lwG := inK5 65 (by decide +kernel) rfl
theorem im_X11_later : Cond.instanceMethod yX11_later ∈ lwG := inK5 68 (by decide +kernel) rfl
theorem se_X11_later : Cond.selects yX11_later.cls yX11_later yX11_later ∈ lwG := inK5 69 (by decide +kernel) rfl
theorem im_X2_tightest : Cond.instanceMethod yX2_tightest ∈ lwG := inK5 72 (by decide +kernel) rfl
theorem se_X2_tightest : Cond.selects yX2_tightest.cls yX2_tightest yX2_tightest ∈ lwG := inK5 73 (by decide +kernel) rfl
theorem im_X2_mostStrain : Cond.instanceMethod yX2_mostStrain ∈ lwG := inK5 76 (by decide +kernel) rfl
theorem se_X2_mostStrain : Cond.selects yX2_mostStrain.cls yX2_mostStrain yX2_mostStrain ∈ lwG := inK5 77 (by decide +kernel) rfl
theorem im_X2_leastStrain : Cond.instanceMethod yX2_leastStrain ∈ lwG := inK5 80 (by decide +kernel) rfl
theorem se_X2_leastStrain : Cond.selects yX2_leastStrain.cls yX2_leastStrain yX2_leastStrain ∈ lwG := inK5 81 (by decide +kernel) rfl
theorem sm_L_opens : Cond.static yL_opens ∈ lwG := inK5 84 (by decide +kernel) rfl
theorem im_X11_opens : Cond.instanceMethod yX11_opens ∈ lwG := inK5 87 (by decide +kernel) rfl
theorem se_X11_opens : Cond.selects yX11_opens.cls yX11_opens yX11_opens ∈ lwG := inK5 88 (by decide +kernel) rfl
theorem sm_L_where : Cond.static yL_where ∈ lwG := inK5 91 (by decide +kernel) rfl
theorem im_X11_where : Cond.instanceMethod yX11_where ∈ lwG := inK5 94 (by decide +kernel) rfl
theorem se_X11_where : Cond.selects yX11_where.cls yX11_where yX11_where ∈ lwG := inK5 95 (by decide +kernel) rfl
theorem sm_L_toHold : Cond.static yL_toHold ∈ lwG := inK5 98 (by decide +kernel) rfl
theorem im_X11_toHold : Cond.instanceMethod yX11_toHold ∈ lwG := inK5 101 (by decide +kernel) rfl
theorem se_X11_toHold : Cond.selects yX11_toHold.cls yX11_toHold yX11_toHold ∈ lwG := inK5 102 (by decide +kernel) rfl
theorem im_X11_staysClosed : Cond.instanceMethod yX11_staysClosed ∈ lwG := inK5 106 (by decide +kernel) rfl
theorem se_X11_staysClosed : Cond.selects yX11_staysClosed.cls yX11_staysClosed yX11_staysClosed ∈ lwG := inP 34 (by decide +kernel) rfl
theorem sm_L_toSend : Cond.static yL_toSend ∈ lwG := inK5 109 (by decide +kernel) rfl
theorem im_X11_toSend : Cond.instanceMethod yX11_toSend ∈ lwG := inK5 112 (by decide +kernel) rfl
theorem se_X11_toSend : Cond.selects yX11_toSend.cls yX11_toSend yX11_toSend ∈ lwG := inK5 113 (by decide +kernel) rfl
theorem sm_L_bestStitch : Cond.static yL_bestStitch ∈ lwG := inK5 117 (by decide +kernel) rfl
theorem im_X11_bestStitch : Cond.instanceMethod yX11_bestStitch ∈ lwG := inK5 120 (by decide +kernel) rfl
theorem se_X11_bestStitch : Cond.selects yX11_bestStitch.cls yX11_bestStitch yX11_bestStitch ∈ lwG := inK5 121 (by decide +kernel) rfl
theorem sm_L_sent : Cond.static yL_sent ∈ lwG := inK5 124 (by decide +kernel) rfl
theorem im_X11_sent : Cond.instanceMethod yX11_sent ∈ lwG := inK5 127 (by decide +kernel) rfl
theorem se_X11_sent : Cond.selects yX11_sent.cls yX11_sent yX11_sent ∈ lwG := inK5 128 (by decide +kernel) rfl
theorem im_X8_weigh : Cond.instanceMethod yX8_weigh ∈ lwG := inK5 133 (by decide +kernel) rfl
theorem se_X8_weigh : Cond.selects yX8_weigh.cls yX8_weigh yX8_weigh ∈ lwG := inK5 134 (by decide +kernel) rfl
theorem im_X8_fewestBehind : Cond.instanceMethod yX8_fewestBehind ∈ lwG := inK5 139 (by decide +kernel) rfl
theorem se_X8_fewestBehind : Cond.selects yX8_fewestBehind.cls yX8_fewestBehind yX8_fewestBehind ∈ lwG := inP 35 (by decide +kernel) rfl
theorem im_X8_stepsBy : Cond.instanceMethod yX8_stepsBy ∈ lwG := inK5 143 (by decide +kernel) rfl
theorem se_X8_stepsBy : Cond.selects yX8_stepsBy.cls yX8_stepsBy yX8_stepsBy ∈ lwG := inP 36 (by decide +kernel) rfl
theorem im_X9_steps : Cond.instanceMethod yX9_steps ∈ lwG := inK5 146 (by decide +kernel) rfl
theorem se_X9_steps : Cond.selects yX9_steps.cls yX9_steps yX9_steps ∈ lwG := inK5 147 (by decide +kernel) rfl
theorem sm_J9_abs_0f7a4 : Cond.static yJ9_abs_0f7a4 ∈ lwG := inK5 150 (by decide +kernel) rfl
theorem im_X8_stepsOfAll : Cond.instanceMethod yX8_stepsOfAll ∈ lwG := inK5 155 (by decide +kernel) rfl
theorem se_X8_stepsOfAll : Cond.selects yX8_stepsOfAll.cls yX8_stepsOfAll yX8_stepsOfAll ∈ lwG := inK5 156 (by decide +kernel) rfl
theorem im_X8_whoGoesTo : Cond.instanceMethod yX8_whoGoesTo ∈ lwG := inK5 159 (by decide +kernel) rfl
theorem se_X8_whoGoesTo : Cond.selects yX8_whoGoesTo.cls yX8_whoGoesTo yX8_whoGoesTo ∈ lwG := inK5 160 (by decide +kernel) rfl
theorem im_X8_whoIsNext : Cond.instanceMethod yX8_whoIsNext ∈ lwG := inK5 164 (by decide +kernel) rfl
theorem se_X8_whoIsNext : Cond.selects yX8_whoIsNext.cls yX8_whoIsNext yX8_whoIsNext ∈ lwG := inP 37 (by decide +kernel) rfl
theorem sm_L_closed : Cond.static yL_closed ∈ lwG := inK5 167 (by decide +kernel) rfl
theorem im_X11_closed : Cond.instanceMethod yX11_closed ∈ lwG := inK5 170 (by decide +kernel) rfl
theorem se_X11_closed : Cond.selects yX11_closed.cls yX11_closed yX11_closed ∈ lwG := inK5 171 (by decide +kernel) rfl
theorem im_X11_closedFrom : Cond.instanceMethod yX11_closedFrom ∈ lwG := inK5 175 (by decide +kernel) rfl
theorem se_X11_closedFrom : Cond.selects yX11_closedFrom.cls yX11_closedFrom yX11_closedFrom ∈ lwG := inP 38 (by decide +kernel) rfl
theorem sm_L_tight : Cond.static yL_tight ∈ lwG := inK5 179 (by decide +kernel) rfl
theorem im_X11_tight : Cond.instanceMethod yX11_tight ∈ lwG := inK5 182 (by decide +kernel) rfl
theorem se_X11_tight : Cond.selects yX11_tight.cls yX11_tight yX11_tight ∈ lwG := inK5 183 (by decide +kernel) rfl
theorem im_X11_strainFrom : Cond.instanceMethod yX11_strainFrom ∈ lwG := inK5 188 (by decide +kernel) rfl
theorem se_X11_strainFrom : Cond.selects yX11_strainFrom.cls yX11_strainFrom yX11_strainFrom ∈ lwG := inP 39 (by decide +kernel) rfl
theorem sm_L_readings : Cond.static yL_readings ∈ lwG := inK5 191 (by decide +kernel) rfl
theorem im_X11_readings : Cond.instanceMethod yX11_readings ∈ lwG := inK5 194 (by decide +kernel) rfl
theorem se_X11_readings : Cond.selects yX11_readings.cls yX11_readings yX11_readings ∈ lwG := inK5 195 (by decide +kernel) rfl
theorem im_X1_untie : Cond.instanceMethod yX1_untie ∈ lwG := inK5 200 (by decide +kernel) rfl
theorem se_X1_untie : Cond.selects yX1_untie.cls yX1_untie yX1_untie ∈ lwG := inK5 201 (by decide +kernel) rfl
theorem im_X1_spell : Cond.instanceMethod yX1_spell ∈ lwG := inK5 205 (by decide +kernel) rfl
theorem se_X1_spell : Cond.selects yX1_spell.cls yX1_spell yX1_spell ∈ lwG := inP 40 (by decide +kernel) rfl
theorem im_X1_untieFrom : Cond.instanceMethod yX1_untieFrom ∈ lwG := inK5 209 (by decide +kernel) rfl
theorem se_X1_untieFrom : Cond.selects yX1_untieFrom.cls yX1_untieFrom yX1_untieFrom ∈ lwG := inP 41 (by decide +kernel) rfl
theorem sm_L_see : Cond.static yL_see ∈ lwG := inK5 214 (by decide +kernel) rfl
theorem im_X11_see : Cond.instanceMethod yX11_see ∈ lwG := inK5 217 (by decide +kernel) rfl
theorem se_X11_see : Cond.selects yX11_see.cls yX11_see yX11_see ∈ lwG := inK5 218 (by decide +kernel) rfl
theorem im_X7_put : Cond.instanceMethod yX7_put ∈ lwG := inK5 221 (by decide +kernel) rfl
theorem se_X7_put : Cond.selects yX7_put.cls yX7_put yX7_put ∈ lwG := inK5 222 (by decide +kernel) rfl
theorem sm_L_torn : Cond.static yL_torn ∈ lwG := inK5 225 (by decide +kernel) rfl
theorem im_X11_torn : Cond.instanceMethod yX11_torn ∈ lwG := inK5 228 (by decide +kernel) rfl
theorem se_X11_torn : Cond.selects yX11_torn.cls yX11_torn yX11_torn ∈ lwG := inK5 229 (by decide +kernel) rfl
theorem im_X0_isSoWithout : Cond.instanceMethod yX0_isSoWithout ∈ lwG := inK5 232 (by decide +kernel) rfl
theorem se_X0_isSoWithout : Cond.selects yX0_isSoWithout.cls yX0_isSoWithout yX0_isSoWithout ∈ lwG := inK5 233 (by decide +kernel) rfl
theorem im_X0_isSo : Cond.instanceMethod yX0_isSo ∈ lwG := inK5 238 (by decide +kernel) rfl
theorem se_X0_isSo : Cond.selects yX0_isSo.cls yX0_isSo yX0_isSo ∈ lwG := inP 42 (by decide +kernel) rfl
theorem im_X7_lastDay : Cond.instanceMethod yX7_lastDay ∈ lwG := inK6 1 (by decide +kernel) rfl
theorem se_X7_lastDay : Cond.selects yX7_lastDay.cls yX7_lastDay yX7_lastDay ∈ lwG := inK6 2 (by decide +kernel) rfl
theorem im_X7_isSo : Cond.instanceMethod yX7_isSo ∈ lwG := inK6 7 (by decide +kernel) rfl
theorem se_X7_isSo : Cond.selects yX7_isSo.cls yX7_isSo yX7_isSo ∈ lwG := inK6 8 (by decide +kernel) rfl
theorem im_X0_weighTears : Cond.instanceMethod yX0_weighTears ∈ lwG := inK6 13 (by decide +kernel) rfl
theorem se_X0_weighTears : Cond.selects yX0_weighTears.cls yX0_weighTears yX0_weighTears ∈ lwG := inK6 14 (by decide +kernel) rfl
theorem im_X0_mark : Cond.instanceMethod yX0_mark ∈ lwG := inK6 20 (by decide +kernel) rfl
theorem se_X0_mark : Cond.selects yX0_mark.cls yX0_mark yX0_mark ∈ lwG := inP 43 (by decide +kernel) rfl
theorem sm_L_look : Cond.static yL_look ∈ lwG := inK6 23 (by decide +kernel) rfl
theorem im_X11_look : Cond.instanceMethod yX11_look ∈ lwG := inK6 26 (by decide +kernel) rfl
theorem se_X11_look : Cond.selects yX11_look.cls yX11_look yX11_look ∈ lwG := inK6 27 (by decide +kernel) rfl
theorem im_X0_unlikeSeams : Cond.instanceMethod yX0_unlikeSeams ∈ lwG := inK6 30 (by decide +kernel) rfl
theorem se_X0_unlikeSeams : Cond.selects yX0_unlikeSeams.cls yX0_unlikeSeams yX0_unlikeSeams ∈ lwG := inK6 31 (by decide +kernel) rfl
theorem sm_J13_bitCount_95d88 : Cond.static yJ13_bitCount_95d88 ∈ lwG := inK6 34 (by decide +kernel) rfl
theorem sm_L_gales : Cond.static yL_gales ∈ lwG := inK6 40 (by decide +kernel) rfl
theorem im_X11_gales : Cond.instanceMethod yX11_gales ∈ lwG := inK6 43 (by decide +kernel) rfl
theorem se_X11_gales : Cond.selects yX11_gales.cls yX11_gales yX11_gales ∈ lwG := inK6 44 (by decide +kernel) rfl
theorem sm_X11_weightOf : Cond.static yX11_weightOf ∈ lwG := inK6 48 (by decide +kernel) rfl
theorem im_X11_blow : Cond.instanceMethod yX11_blow ∈ lwG := inK6 52 (by decide +kernel) rfl
theorem se_X11_blow : Cond.selects yX11_blow.cls yX11_blow yX11_blow ∈ lwG := inP 44 (by decide +kernel) rfl
theorem im_X2_gale : Cond.instanceMethod yX2_gale ∈ lwG := inK6 55 (by decide +kernel) rfl
theorem se_X2_gale : Cond.selects yX2_gale.cls yX2_gale yX2_gale ∈ lwG := inK6 56 (by decide +kernel) rfl
theorem sm_L_game : Cond.static yL_game ∈ lwG := inK6 59 (by decide +kernel) rfl
theorem im_X11_game : Cond.instanceMethod yX11_game ∈ lwG := inK6 62 (by decide +kernel) rfl
theorem se_X11_game : Cond.selects yX11_game.cls yX11_game yX11_game ∈ lwG := inK6 63 (by decide +kernel) rfl
theorem im_X11_playCouple : Cond.instanceMethod yX11_playCouple ∈ lwG := inK6 68 (by decide +kernel) rfl
theorem se_X11_playCouple : Cond.selects yX11_playCouple.cls yX11_playCouple yX11_playCouple ∈ lwG := inP 45 (by decide +kernel) rfl
theorem im_X11_play : Cond.instanceMethod yX11_play ∈ lwG := inK6 72 (by decide +kernel) rfl
theorem se_X11_play : Cond.selects yX11_play.cls yX11_play yX11_play ∈ lwG := inP 46 (by decide +kernel) rfl
theorem im_X11_seamThen : Cond.instanceMethod yX11_seamThen ∈ lwG := inK6 77 (by decide +kernel) rfl
theorem se_X11_seamThen : Cond.selects yX11_seamThen.cls yX11_seamThen yX11_seamThen ∈ lwG := inP 47 (by decide +kernel) rfl
theorem im_X11_rests : Cond.instanceMethod yX11_rests ∈ lwG := inK6 81 (by decide +kernel) rfl
theorem se_X11_rests : Cond.selects yX11_rests.cls yX11_rests yX11_rests ∈ lwG := inP 48 (by decide +kernel) rfl
theorem sm_L_years : Cond.static yL_years ∈ lwG := inK6 84 (by decide +kernel) rfl
theorem im_X11_years : Cond.instanceMethod yX11_years ∈ lwG := inK6 87 (by decide +kernel) rfl
theorem se_X11_years : Cond.selects yX11_years.cls yX11_years yX11_years ∈ lwG := inK6 88 (by decide +kernel) rfl
theorem im_X11_befall : Cond.instanceMethod yX11_befall ∈ lwG := inK6 92 (by decide +kernel) rfl
theorem se_X11_befall : Cond.selects yX11_befall.cls yX11_befall yX11_befall ∈ lwG := inP 49 (by decide +kernel) rfl
theorem im_X11_draw : Cond.instanceMethod yX11_draw ∈ lwG := inK6 96 (by decide +kernel) rfl
theorem se_X11_draw : Cond.selects yX11_draw.cls yX11_draw yX11_draw ∈ lwG := inP 50 (by decide +kernel) rfl
theorem sm_L_nearest : Cond.static yL_nearest ∈ lwG := inK6 101 (by decide +kernel) rfl
theorem im_X11_nearest : Cond.instanceMethod yX11_nearest ∈ lwG := inK6 104 (by decide +kernel) rfl
theorem se_X11_nearest : Cond.selects yX11_nearest.cls yX11_nearest yX11_nearest ∈ lwG := inK6 105 (by decide +kernel) rfl
theorem sm_L_far : Cond.static yL_far ∈ lwG := inK6 109 (by decide +kernel) rfl
theorem im_X11_far : Cond.instanceMethod yX11_far ∈ lwG := inK6 112 (by decide +kernel) rfl
theorem se_X11_far : Cond.selects yX11_far.cls yX11_far yX11_far ∈ lwG := inK6 113 (by decide +kernel) rfl
theorem sm_L_worst : Cond.static yL_worst ∈ lwG := inK6 116 (by decide +kernel) rfl
theorem im_X11_worst : Cond.instanceMethod yX11_worst ∈ lwG := inK6 119 (by decide +kernel) rfl
theorem se_X11_worst : Cond.selects yX11_worst.cls yX11_worst yX11_worst ∈ lwG := inK6 120 (by decide +kernel) rfl
theorem sm_L_meet : Cond.static yL_meet ∈ lwG := inK6 124 (by decide +kernel) rfl
theorem im_X11_meet : Cond.instanceMethod yX11_meet ∈ lwG := inK6 127 (by decide +kernel) rfl
theorem se_X11_meet : Cond.selects yX11_meet.cls yX11_meet yX11_meet ∈ lwG := inK6 128 (by decide +kernel) rfl
theorem sm_L_bare : Cond.static yL_bare ∈ lwG := inK6 131 (by decide +kernel) rfl
theorem im_X11_bare : Cond.instanceMethod yX11_bare ∈ lwG := inK6 134 (by decide +kernel) rfl
theorem se_X11_bare : Cond.selects yX11_bare.cls yX11_bare yX11_bare ∈ lwG := inK6 135 (by decide +kernel) rfl
theorem sm_L_load : Cond.static yL_load ∈ lwG := inK6 139 (by decide +kernel) rfl
theorem im_X11_load : Cond.instanceMethod yX11_load ∈ lwG := inK6 142 (by decide +kernel) rfl
theorem se_X11_load : Cond.selects yX11_load.cls yX11_load yX11_load ∈ lwG := inK6 143 (by decide +kernel) rfl
theorem im_X2_strainedBits : Cond.instanceMethod yX2_strainedBits ∈ lwG := inK6 147 (by decide +kernel) rfl
theorem se_X2_strainedBits : Cond.selects yX2_strainedBits.cls yX2_strainedBits yX2_strainedBits ∈ lwG := inK6 148 (by decide +kernel) rfl
theorem im_X12_init : Cond.instanceMethod yX12_init ∈ lwG := inK6 153 (by decide +kernel) rfl
theorem im_X12_thrown : Cond.instanceMethod yX12_thrown ∈ lwG := inK7 108 (by decide +kernel) rfl
theorem se_X12_thrown : Cond.selects yX12_thrown.cls yX12_thrown yX12_thrown ∈ lwG := inK7 109 (by decide +kernel) rfl
theorem im_X12_feed : Cond.instanceMethod yX12_feed ∈ lwG := inK7 112 (by decide +kernel) rfl
theorem se_X12_feed : Cond.selects yX12_feed.cls yX12_feed yX12_feed ∈ lwG := inK7 113 (by decide +kernel) rfl
theorem im_X12_lays : Cond.instanceMethod yX12_lays ∈ lwG := inK7 117 (by decide +kernel) rfl
theorem se_X12_lays : Cond.selects yX12_lays.cls yX12_lays yX12_lays ∈ lwG := inP 51 (by decide +kernel) rfl
theorem im_X12_ring : Cond.instanceMethod yX12_ring ∈ lwG := inK7 120 (by decide +kernel) rfl
theorem se_X12_ring : Cond.selects yX12_ring.cls yX12_ring yX12_ring ∈ lwG := inK7 121 (by decide +kernel) rfl
theorem im_X12_right : Cond.instanceMethod yX12_right ∈ lwG := inK7 125 (by decide +kernel) rfl
theorem se_X12_right : Cond.selects yX12_right.cls yX12_right yX12_right ∈ lwG := inP 52 (by decide +kernel) rfl
theorem im_X12_goes : Cond.instanceMethod yX12_goes ∈ lwG := inK7 129 (by decide +kernel) rfl
theorem se_X12_goes : Cond.selects yX12_goes.cls yX12_goes yX12_goes ∈ lwG := inP 53 (by decide +kernel) rfl
theorem im_X12_byteAt : Cond.instanceMethod yX12_byteAt ∈ lwG := inK7 133 (by decide +kernel) rfl
theorem se_X12_byteAt : Cond.selects yX12_byteAt.cls yX12_byteAt yX12_byteAt ∈ lwG := inP 54 (by decide +kernel) rfl
theorem sm_X12_isLetter : Cond.static yX12_isLetter ∈ lwG := inK7 136 (by decide +kernel) rfl
theorem sm_X12_isDigit : Cond.static yX12_isDigit ∈ lwG := inK7 139 (by decide +kernel) rfl
theorem im_X12_isGood : Cond.instanceMethod yX12_isGood ∈ lwG := inK7 143 (by decide +kernel) rfl
theorem se_X12_isGood : Cond.selects yX12_isGood.cls yX12_isGood yX12_isGood ∈ lwG := inP 55 (by decide +kernel) rfl
theorem im_X12_line : Cond.instanceMethod yX12_line ∈ lwG := inK7 147 (by decide +kernel) rfl
theorem se_X12_line : Cond.selects yX12_line.cls yX12_line yX12_line ∈ lwG := inP 56 (by decide +kernel) rfl
theorem im_X12_knownWord : Cond.instanceMethod yX12_knownWord ∈ lwG := inK7 151 (by decide +kernel) rfl
theorem se_X12_knownWord : Cond.selects yX12_knownWord.cls yX12_knownWord yX12_knownWord ∈ lwG := inP 57 (by decide +kernel) rfl
theorem sm_X12_letters : Cond.static yX12_letters ∈ lwG := inK7 154 (by decide +kernel) rfl
theorem sm_X12_spelled : Cond.static yX12_spelled ∈ lwG := inK7 157 (by decide +kernel) rfl
theorem im_X12_begins : Cond.instanceMethod yX12_begins ∈ lwG := inK7 162 (by decide +kernel) rfl
theorem se_X12_begins : Cond.selects yX12_begins.cls yX12_begins yX12_begins ∈ lwG := inP 58 (by decide +kernel) rfl
theorem im_X12_wrong : Cond.instanceMethod yX12_wrong ∈ lwG := inK7 166 (by decide +kernel) rfl
theorem se_X12_wrong : Cond.selects yX12_wrong.cls yX12_wrong yX12_wrong ∈ lwG := inP 59 (by decide +kernel) rfl
theorem im_X12_readsStretch : Cond.instanceMethod yX12_readsStretch ∈ lwG := inK7 170 (by decide +kernel) rfl
theorem se_X12_readsStretch : Cond.selects yX12_readsStretch.cls yX12_readsStretch yX12_readsStretch ∈ lwG := inP 60 (by decide +kernel) rfl
theorem im_X12_number : Cond.instanceMethod yX12_number ∈ lwG := inK7 174 (by decide +kernel) rfl
theorem se_X12_number : Cond.selects yX12_number.cls yX12_number yX12_number ∈ lwG := inP 61 (by decide +kernel) rfl
theorem im_X12_readsWoman : Cond.instanceMethod yX12_readsWoman ∈ lwG := inK7 178 (by decide +kernel) rfl
theorem se_X12_readsWoman : Cond.selects yX12_readsWoman.cls yX12_readsWoman yX12_readsWoman ∈ lwG := inP 62 (by decide +kernel) rfl
theorem im_X12_readsKnots : Cond.instanceMethod yX12_readsKnots ∈ lwG := inK7 182 (by decide +kernel) rfl
theorem se_X12_readsKnots : Cond.selects yX12_readsKnots.cls yX12_readsKnots yX12_readsKnots ∈ lwG := inP 63 (by decide +kernel) rfl
theorem im_X12_isKnot : Cond.instanceMethod yX12_isKnot ∈ lwG := inK7 186 (by decide +kernel) rfl
theorem se_X12_isKnot : Cond.selects yX12_isKnot.cls yX12_isKnot yX12_isKnot ∈ lwG := inP 64 (by decide +kernel) rfl
theorem im_X12_expression : Cond.instanceMethod yX12_expression ∈ lwG := inK7 190 (by decide +kernel) rfl
theorem se_X12_expression : Cond.selects yX12_expression.cls yX12_expression yX12_expression ∈ lwG := inP 65 (by decide +kernel) rfl
theorem im_X12_deeper : Cond.instanceMethod yX12_deeper ∈ lwG := inK7 194 (by decide +kernel) rfl
theorem se_X12_deeper : Cond.selects yX12_deeper.cls yX12_deeper yX12_deeper ∈ lwG := inP 66 (by decide +kernel) rfl
theorem im_X12_isSign : Cond.instanceMethod yX12_isSign ∈ lwG := inK7 198 (by decide +kernel) rfl
theorem se_X12_isSign : Cond.selects yX12_isSign.cls yX12_isSign yX12_isSign ∈ lwG := inP 67 (by decide +kernel) rfl
theorem im_X12_operand : Cond.instanceMethod yX12_operand ∈ lwG := inK7 202 (by decide +kernel) rfl
theorem se_X12_operand : Cond.selects yX12_operand.cls yX12_operand yX12_operand ∈ lwG := inP 68 (by decide +kernel) rfl
theorem im_X12_waitsFor : Cond.instanceMethod yX12_waitsFor ∈ lwG := inK7 206 (by decide +kernel) rfl
theorem se_X12_waitsFor : Cond.selects yX12_waitsFor.cls yX12_waitsFor yX12_waitsFor ∈ lwG := inP 69 (by decide +kernel) rfl
theorem im_X12_part : Cond.instanceMethod yX12_part ∈ lwG := inK7 210 (by decide +kernel) rfl
theorem se_X12_part : Cond.selects yX12_part.cls yX12_part yX12_part ∈ lwG := inP 70 (by decide +kernel) rfl
theorem im_X12_puts : Cond.instanceMethod yX12_puts ∈ lwG := inK7 214 (by decide +kernel) rfl
theorem se_X12_puts : Cond.selects yX12_puts.cls yX12_puts yX12_puts ∈ lwG := inP 71 (by decide +kernel) rfl
theorem im_X12_drops : Cond.instanceMethod yX12_drops ∈ lwG := inK7 218 (by decide +kernel) rfl
theorem se_X12_drops : Cond.selects yX12_drops.cls yX12_drops yX12_drops ∈ lwG := inP 72 (by decide +kernel) rfl
theorem sm_X12_isOpen : Cond.static yX12_isOpen ∈ lwG := inK7 221 (by decide +kernel) rfl
theorem sm_X12_strength : Cond.static yX12_strength ∈ lwG := inK7 224 (by decide +kernel) rfl
theorem im_X12_isOpened : Cond.instanceMethod yX12_isOpened ∈ lwG := inK7 228 (by decide +kernel) rfl
theorem se_X12_isOpened : Cond.selects yX12_isOpened.cls yX12_isOpened yX12_isOpened ∈ lwG := inP 73 (by decide +kernel) rfl
theorem im_X12_closes : Cond.instanceMethod yX12_closes ∈ lwG := inK7 232 (by decide +kernel) rfl
theorem se_X12_closes : Cond.selects yX12_closes.cls yX12_closes yX12_closes ∈ lwG := inP 74 (by decide +kernel) rfl
theorem im_X12_need : Cond.instanceMethod yX12_need ∈ lwG := inK7 236 (by decide +kernel) rfl
theorem se_X12_need : Cond.selects yX12_need.cls yX12_need yX12_need ∈ lwG := inP 75 (by decide +kernel) rfl
theorem im_X12_copies : Cond.instanceMethod yX12_copies ∈ lwG := inK8 0 (by decide +kernel) rfl
theorem se_X12_copies : Cond.selects yX12_copies.cls yX12_copies yX12_copies ∈ lwG := inP 76 (by decide +kernel) rfl
theorem im_X12_fault : Cond.instanceMethod yX12_fault ∈ lwG := inK8 3 (by decide +kernel) rfl
theorem se_X12_fault : Cond.selects yX12_fault.cls yX12_fault yX12_fault ∈ lwG := inK8 4 (by decide +kernel) rfl
theorem im_X12_undo : Cond.instanceMethod yX12_undo ∈ lwG := inK8 7 (by decide +kernel) rfl
theorem se_X12_undo : Cond.selects yX12_undo.cls yX12_undo yX12_undo ∈ lwG := inK8 8 (by decide +kernel) rfl
theorem im_X12_count : Cond.instanceMethod yX12_count ∈ lwG := inK8 11 (by decide +kernel) rfl
theorem se_X12_count : Cond.selects yX12_count.cls yX12_count yX12_count ∈ lwG := inK8 12 (by decide +kernel) rfl
theorem sm_X12_within : Cond.static yX12_within ∈ lwG := inK8 15 (by decide +kernel) rfl
theorem im_X12_openOnes : Cond.instanceMethod yX12_openOnes ∈ lwG := inK8 19 (by decide +kernel) rfl
theorem se_X12_openOnes : Cond.selects yX12_openOnes.cls yX12_openOnes yX12_openOnes ∈ lwG := inP 77 (by decide +kernel) rfl
theorem im_X12_isGap : Cond.instanceMethod yX12_isGap ∈ lwG := inK8 23 (by decide +kernel) rfl
theorem se_X12_isGap : Cond.selects yX12_isGap.cls yX12_isGap yX12_isGap ∈ lwG := inP 78 (by decide +kernel) rfl
theorem im_X12_sumOf : Cond.instanceMethod yX12_sumOf ∈ lwG := inK8 27 (by decide +kernel) rfl
theorem se_X12_sumOf : Cond.selects yX12_sumOf.cls yX12_sumOf yX12_sumOf ∈ lwG := inP 79 (by decide +kernel) rfl
theorem im_X12_idle : Cond.instanceMethod yX12_idle ∈ lwG := inK8 31 (by decide +kernel) rfl
theorem se_X12_idle : Cond.selects yX12_idle.cls yX12_idle yX12_idle ∈ lwG := inP 80 (by decide +kernel) rfl
theorem im_X12_womenAt : Cond.instanceMethod yX12_womenAt ∈ lwG := inK8 35 (by decide +kernel) rfl
theorem se_X12_womenAt : Cond.selects yX12_womenAt.cls yX12_womenAt yX12_womenAt ∈ lwG := inP 81 (by decide +kernel) rfl
theorem im_X12_stretch : Cond.instanceMethod yX12_stretch ∈ lwG := inK8 38 (by decide +kernel) rfl
theorem se_X12_stretch : Cond.selects yX12_stretch.cls yX12_stretch yX12_stretch ∈ lwG := inK8 39 (by decide +kernel) rfl
theorem im_X12_isStretch : Cond.instanceMethod yX12_isStretch ∈ lwG := inK8 43 (by decide +kernel) rfl
theorem se_X12_isStretch : Cond.selects yX12_isStretch.cls yX12_isStretch yX12_isStretch ∈ lwG := inP 82 (by decide +kernel) rfl
theorem im_X12_isWhat : Cond.instanceMethod yX12_isWhat ∈ lwG := inK8 47 (by decide +kernel) rfl
theorem se_X12_isWhat : Cond.selects yX12_isWhat.cls yX12_isWhat yX12_isWhat ∈ lwG := inP 83 (by decide +kernel) rfl
theorem im_X12_fraysOf : Cond.instanceMethod yX12_fraysOf ∈ lwG := inK8 51 (by decide +kernel) rfl
theorem se_X12_fraysOf : Cond.selects yX12_fraysOf.cls yX12_fraysOf yX12_fraysOf ∈ lwG := inP 84 (by decide +kernel) rfl
theorem im_X12_asks : Cond.instanceMethod yX12_asks ∈ lwG := inK8 55 (by decide +kernel) rfl
theorem se_X12_asks : Cond.selects yX12_asks.cls yX12_asks yX12_asks ∈ lwG := inP 85 (by decide +kernel) rfl
theorem im_X12_besideOf : Cond.instanceMethod yX12_besideOf ∈ lwG := inK8 59 (by decide +kernel) rfl
theorem se_X12_besideOf : Cond.selects yX12_besideOf.cls yX12_besideOf yX12_besideOf ∈ lwG := inP 86 (by decide +kernel) rfl
theorem im_X12_ahead1 : Cond.instanceMethod yX12_ahead1 ∈ lwG := inK8 63 (by decide +kernel) rfl
theorem se_X12_ahead1 : Cond.selects yX12_ahead1.cls yX12_ahead1 yX12_ahead1 ∈ lwG := inP 87 (by decide +kernel) rfl
theorem im_X12_behind1 : Cond.instanceMethod yX12_behind1 ∈ lwG := inK8 67 (by decide +kernel) rfl
theorem se_X12_behind1 : Cond.selects yX12_behind1.cls yX12_behind1 yX12_behind1 ∈ lwG := inP 88 (by decide +kernel) rfl
theorem sm_X12_bits : Cond.static yX12_bits ∈ lwG := inK8 70 (by decide +kernel) rfl
theorem im_X12_reckons : Cond.instanceMethod yX12_reckons ∈ lwG := inK8 74 (by decide +kernel) rfl
theorem se_X12_reckons : Cond.selects yX12_reckons.cls yX12_reckons yX12_reckons ∈ lwG := inP 89 (by decide +kernel) rfl
theorem sm_X12_works : Cond.static yX12_works ∈ lwG := inK8 77 (by decide +kernel) rfl
theorem sm_X12_bounded : Cond.static yX12_bounded ∈ lwG := inK8 80 (by decide +kernel) rfl
theorem im_X12_pullsOf : Cond.instanceMethod yX12_pullsOf ∈ lwG := inK8 84 (by decide +kernel) rfl
theorem se_X12_pullsOf : Cond.selects yX12_pullsOf.cls yX12_pullsOf yX12_pullsOf ∈ lwG := inP 90 (by decide +kernel) rfl
theorem im_X12_woman : Cond.instanceMethod yX12_woman ∈ lwG := inK8 87 (by decide +kernel) rfl
theorem se_X12_woman : Cond.selects yX12_woman.cls yX12_woman yX12_woman ∈ lwG := inK8 88 (by decide +kernel) rfl
theorem im_X12_isWoman : Cond.instanceMethod yX12_isWoman ∈ lwG := inK8 92 (by decide +kernel) rfl
theorem se_X12_isWoman : Cond.selects yX12_isWoman.cls yX12_isWoman yX12_isWoman ∈ lwG := inP 91 (by decide +kernel) rfl
theorem im_X12_days : Cond.instanceMethod yX12_days ∈ lwG := inK8 95 (by decide +kernel) rfl
theorem se_X12_days : Cond.selects yX12_days.cls yX12_days yX12_days ∈ lwG := inK8 96 (by decide +kernel) rfl
theorem im_X12_refuses : Cond.instanceMethod yX12_refuses ∈ lwG := inK8 100 (by decide +kernel) rfl
theorem se_X12_refuses : Cond.selects yX12_refuses.cls yX12_refuses yX12_refuses ∈ lwG := inP 92 (by decide +kernel) rfl
theorem im_X12_keeps : Cond.instanceMethod yX12_keeps ∈ lwG := inK8 104 (by decide +kernel) rfl
theorem se_X12_keeps : Cond.selects yX12_keeps.cls yX12_keeps yX12_keeps ∈ lwG := inP 93 (by decide +kernel) rfl
theorem im_X12_dayGoes : Cond.instanceMethod yX12_dayGoes ∈ lwG := inK8 108 (by decide +kernel) rfl
theorem se_X12_dayGoes : Cond.selects yX12_dayGoes.cls yX12_dayGoes yX12_dayGoes ∈ lwG := inP 94 (by decide +kernel) rfl
theorem im_X12_loosens : Cond.instanceMethod yX12_loosens ∈ lwG := inK8 112 (by decide +kernel) rfl
theorem se_X12_loosens : Cond.selects yX12_loosens.cls yX12_loosens yX12_loosens ∈ lwG := inP 95 (by decide +kernel) rfl
theorem im_X12_strains : Cond.instanceMethod yX12_strains ∈ lwG := inK8 116 (by decide +kernel) rfl
theorem se_X12_strains : Cond.selects yX12_strains.cls yX12_strains yX12_strains ∈ lwG := inP 96 (by decide +kernel) rfl
theorem sm_X12_lesser : Cond.static yX12_lesser ∈ lwG := inK8 119 (by decide +kernel) rfl
theorem im_X12_mends : Cond.instanceMethod yX12_mends ∈ lwG := inK8 123 (by decide +kernel) rfl
theorem se_X12_mends : Cond.selects yX12_mends.cls yX12_mends yX12_mends ∈ lwG := inP 97 (by decide +kernel) rfl
theorem im_X12_goesOn : Cond.instanceMethod yX12_goesOn ∈ lwG := inK8 127 (by decide +kernel) rfl
theorem se_X12_goesOn : Cond.selects yX12_goesOn.cls yX12_goesOn yX12_goesOn ∈ lwG := inP 98 (by decide +kernel) rfl
theorem im_X12_mend : Cond.instanceMethod yX12_mend ∈ lwG := inK8 130 (by decide +kernel) rfl
theorem se_X12_mend : Cond.selects yX12_mend.cls yX12_mend yX12_mend ∈ lwG := inK8 131 (by decide +kernel) rfl
theorem im_X12_go : Cond.instanceMethod yX12_go ∈ lwG := inK8 134 (by decide +kernel) rfl
theorem se_X12_go : Cond.selects yX12_go.cls yX12_go yX12_go ∈ lwG := inK8 135 (by decide +kernel) rfl
theorem im_X12_stitch : Cond.instanceMethod yX12_stitch ∈ lwG := inK8 138 (by decide +kernel) rfl
theorem se_X12_stitch : Cond.selects yX12_stitch.cls yX12_stitch yX12_stitch ∈ lwG := inK8 139 (by decide +kernel) rfl
theorem im_X12_thread : Cond.instanceMethod yX12_thread ∈ lwG := inK8 142 (by decide +kernel) rfl
theorem se_X12_thread : Cond.selects yX12_thread.cls yX12_thread yX12_thread ∈ lwG := inK8 143 (by decide +kernel) rfl
theorem im_X12_tear : Cond.instanceMethod yX12_tear ∈ lwG := inK8 146 (by decide +kernel) rfl
theorem se_X12_tear : Cond.selects yX12_tear.cls yX12_tear yX12_tear ∈ lwG := inK8 147 (by decide +kernel) rfl
theorem im_X12_then : Cond.instanceMethod yX12_then ∈ lwG := inK8 150 (by decide +kernel) rfl
theorem se_X12_then : Cond.selects yX12_then.cls yX12_then yX12_then ∈ lwG := inK8 151 (by decide +kernel) rfl
theorem im_X12_isDays : Cond.instanceMethod yX12_isDays ∈ lwG := inK8 155 (by decide +kernel) rfl
theorem se_X12_isDays : Cond.selects yX12_isDays.cls yX12_isDays yX12_isDays ∈ lwG := inP 99 (by decide +kernel) rfl
theorem im_X12_goesTo : Cond.instanceMethod yX12_goesTo ∈ lwG := inK8 159 (by decide +kernel) rfl
theorem se_X12_goesTo : Cond.selects yX12_goesTo.cls yX12_goesTo yX12_goesTo ∈ lwG := inP 100 (by decide +kernel) rfl
theorem im_X12_tries : Cond.instanceMethod yX12_tries ∈ lwG := inK8 163 (by decide +kernel) rfl
theorem se_X12_tries : Cond.selects yX12_tries.cls yX12_tries yX12_tries ∈ lwG := inP 101 (by decide +kernel) rfl
theorem im_X12_daysGo : Cond.instanceMethod yX12_daysGo ∈ lwG := inK8 167 (by decide +kernel) rfl
theorem se_X12_daysGo : Cond.selects yX12_daysGo.cls yX12_daysGo yX12_daysGo ∈ lwG := inP 102 (by decide +kernel) rfl
theorem im_X12_later : Cond.instanceMethod yX12_later ∈ lwG := inK8 170 (by decide +kernel) rfl
theorem se_X12_later : Cond.selects yX12_later.cls yX12_later yX12_later ∈ lwG := inK8 171 (by decide +kernel) rfl
theorem im_X12_extreme : Cond.instanceMethod yX12_extreme ∈ lwG := inK8 175 (by decide +kernel) rfl
theorem se_X12_extreme : Cond.selects yX12_extreme.cls yX12_extreme yX12_extreme ∈ lwG := inP 103 (by decide +kernel) rfl
theorem im_X12_opens : Cond.instanceMethod yX12_opens ∈ lwG := inK8 178 (by decide +kernel) rfl
theorem se_X12_opens : Cond.selects yX12_opens.cls yX12_opens yX12_opens ∈ lwG := inK8 179 (by decide +kernel) rfl
theorem im_X12_opensIn : Cond.instanceMethod yX12_opensIn ∈ lwG := inK8 183 (by decide +kernel) rfl
theorem se_X12_opensIn : Cond.selects yX12_opensIn.cls yX12_opensIn yX12_opensIn ∈ lwG := inP 104 (by decide +kernel) rfl
theorem im_X12_first : Cond.instanceMethod yX12_first ∈ lwG := inK8 187 (by decide +kernel) rfl
theorem se_X12_first : Cond.selects yX12_first.cls yX12_first yX12_first ∈ lwG := inK8 188 (by decide +kernel) rfl
theorem im_X12_where : Cond.instanceMethod yX12_where ∈ lwG := inK8 191 (by decide +kernel) rfl
theorem se_X12_where : Cond.selects yX12_where.cls yX12_where yX12_where ∈ lwG := inK8 192 (by decide +kernel) rfl
theorem im_X12_spent : Cond.instanceMethod yX12_spent ∈ lwG := inK8 195 (by decide +kernel) rfl
theorem se_X12_spent : Cond.selects yX12_spent.cls yX12_spent yX12_spent ∈ lwG := inK8 196 (by decide +kernel) rfl
theorem im_X12_toHold : Cond.instanceMethod yX12_toHold ∈ lwG := inK8 199 (by decide +kernel) rfl
theorem se_X12_toHold : Cond.selects yX12_toHold.cls yX12_toHold yX12_toHold ∈ lwG := inK8 200 (by decide +kernel) rfl
theorem im_X12_toSend : Cond.instanceMethod yX12_toSend ∈ lwG := inK8 203 (by decide +kernel) rfl
theorem se_X12_toSend : Cond.selects yX12_toSend.cls yX12_toSend yX12_toSend ∈ lwG := inK8 204 (by decide +kernel) rfl
theorem im_X12_bestStitch : Cond.instanceMethod yX12_bestStitch ∈ lwG := inK8 207 (by decide +kernel) rfl
theorem se_X12_bestStitch : Cond.selects yX12_bestStitch.cls yX12_bestStitch yX12_bestStitch ∈ lwG := inK8 208 (by decide +kernel) rfl
theorem im_X12_sent : Cond.instanceMethod yX12_sent ∈ lwG := inK8 211 (by decide +kernel) rfl
theorem se_X12_sent : Cond.selects yX12_sent.cls yX12_sent yX12_sent ∈ lwG := inK8 212 (by decide +kernel) rfl
theorem im_X12_byWoman : Cond.instanceMethod yX12_byWoman ∈ lwG := inK8 216 (by decide +kernel) rfl
theorem se_X12_byWoman : Cond.selects yX12_byWoman.cls yX12_byWoman yX12_byWoman ∈ lwG := inP 105 (by decide +kernel) rfl
theorem im_X12_stepsBy : Cond.instanceMethod yX12_stepsBy ∈ lwG := inK8 220 (by decide +kernel) rfl
theorem se_X12_stepsBy : Cond.selects yX12_stepsBy.cls yX12_stepsBy yX12_stepsBy ∈ lwG := inP 106 (by decide +kernel) rfl
theorem im_X12_closed : Cond.instanceMethod yX12_closed ∈ lwG := inK8 223 (by decide +kernel) rfl
theorem se_X12_closed : Cond.selects yX12_closed.cls yX12_closed yX12_closed ∈ lwG := inK8 224 (by decide +kernel) rfl
theorem im_X12_tight : Cond.instanceMethod yX12_tight ∈ lwG := inK8 227 (by decide +kernel) rfl
theorem se_X12_tight : Cond.selects yX12_tight.cls yX12_tight yX12_tight ∈ lwG := inK8 228 (by decide +kernel) rfl
theorem im_X12_gaps : Cond.instanceMethod yX12_gaps ∈ lwG := inK8 231 (by decide +kernel) rfl
theorem se_X12_gaps : Cond.selects yX12_gaps.cls yX12_gaps yX12_gaps ∈ lwG := inK8 232 (by decide +kernel) rfl
theorem im_X12_readings : Cond.instanceMethod yX12_readings ∈ lwG := inK8 235 (by decide +kernel) rfl
theorem se_X12_readings : Cond.selects yX12_readings.cls yX12_readings yX12_readings ∈ lwG := inK8 236 (by decide +kernel) rfl
theorem im_X12_isHere : Cond.instanceMethod yX12_isHere ∈ lwG := inK9 1 (by decide +kernel) rfl
theorem se_X12_isHere : Cond.selects yX12_isHere.cls yX12_isHere yX12_isHere ∈ lwG := inP 107 (by decide +kernel) rfl
theorem im_X12_see : Cond.instanceMethod yX12_see ∈ lwG := inK9 4 (by decide +kernel) rfl
theorem se_X12_see : Cond.selects yX12_see.cls yX12_see yX12_see ∈ lwG := inK9 5 (by decide +kernel) rfl
theorem im_X12_forget : Cond.instanceMethod yX12_forget ∈ lwG := inK9 8 (by decide +kernel) rfl
theorem se_X12_forget : Cond.selects yX12_forget.cls yX12_forget yX12_forget ∈ lwG := inK9 9 (by decide +kernel) rfl
theorem im_X12_torn : Cond.instanceMethod yX12_torn ∈ lwG := inK9 12 (by decide +kernel) rfl
theorem se_X12_torn : Cond.selects yX12_torn.cls yX12_torn yX12_torn ∈ lwG := inK9 13 (by decide +kernel) rfl
theorem im_X12_isSeen : Cond.instanceMethod yX12_isSeen ∈ lwG := inK9 17 (by decide +kernel) rfl
theorem se_X12_isSeen : Cond.selects yX12_isSeen.cls yX12_isSeen yX12_isSeen ∈ lwG := inP 108 (by decide +kernel) rfl
theorem im_X12_isGuess : Cond.instanceMethod yX12_isGuess ∈ lwG := inK9 21 (by decide +kernel) rfl
theorem se_X12_isGuess : Cond.selects yX12_isGuess.cls yX12_isGuess yX12_isGuess ∈ lwG := inP 109 (by decide +kernel) rfl
theorem im_X12_look : Cond.instanceMethod yX12_look ∈ lwG := inK9 24 (by decide +kernel) rfl
theorem se_X12_look : Cond.selects yX12_look.cls yX12_look yX12_look ∈ lwG := inK9 25 (by decide +kernel) rfl
theorem im_X12_gales : Cond.instanceMethod yX12_gales ∈ lwG := inK9 28 (by decide +kernel) rfl
theorem se_X12_gales : Cond.selects yX12_gales.cls yX12_gales yX12_gales ∈ lwG := inK9 29 (by decide +kernel) rfl
theorem im_X12_game : Cond.instanceMethod yX12_game ∈ lwG := inK9 32 (by decide +kernel) rfl
theorem se_X12_game : Cond.selects yX12_game.cls yX12_game yX12_game ∈ lwG := inK9 33 (by decide +kernel) rfl
theorem im_X12_gains : Cond.instanceMethod yX12_gains ∈ lwG := inK9 37 (by decide +kernel) rfl
theorem se_X12_gains : Cond.selects yX12_gains.cls yX12_gains yX12_gains ∈ lwG := inP 110 (by decide +kernel) rfl
theorem im_X12_plays : Cond.instanceMethod yX12_plays ∈ lwG := inK9 41 (by decide +kernel) rfl
theorem se_X12_plays : Cond.selects yX12_plays.cls yX12_plays yX12_plays ∈ lwG := inP 111 (by decide +kernel) rfl
theorem im_X12_years : Cond.instanceMethod yX12_years ∈ lwG := inK9 44 (by decide +kernel) rfl
theorem se_X12_years : Cond.selects yX12_years.cls yX12_years yX12_years ∈ lwG := inK9 45 (by decide +kernel) rfl
theorem im_X12_happens : Cond.instanceMethod yX12_happens ∈ lwG := inK9 49 (by decide +kernel) rfl
theorem se_X12_happens : Cond.selects yX12_happens.cls yX12_happens yX12_happens ∈ lwG := inP 112 (by decide +kernel) rfl
theorem im_X12_draw : Cond.instanceMethod yX12_draw ∈ lwG := inK9 53 (by decide +kernel) rfl
theorem se_X12_draw : Cond.selects yX12_draw.cls yX12_draw yX12_draw ∈ lwG := inP 113 (by decide +kernel) rfl
theorem im_X12_steady : Cond.instanceMethod yX12_steady ∈ lwG := inK9 57 (by decide +kernel) rfl
theorem se_X12_steady : Cond.selects yX12_steady.cls yX12_steady yX12_steady ∈ lwG := inK9 58 (by decide +kernel) rfl
theorem im_X12_nearest : Cond.instanceMethod yX12_nearest ∈ lwG := inK9 61 (by decide +kernel) rfl
theorem se_X12_nearest : Cond.selects yX12_nearest.cls yX12_nearest yX12_nearest ∈ lwG := inK9 62 (by decide +kernel) rfl
theorem im_X12_far : Cond.instanceMethod yX12_far ∈ lwG := inK9 65 (by decide +kernel) rfl
theorem se_X12_far : Cond.selects yX12_far.cls yX12_far yX12_far ∈ lwG := inK9 66 (by decide +kernel) rfl
theorem im_X12_worst : Cond.instanceMethod yX12_worst ∈ lwG := inK9 69 (by decide +kernel) rfl
theorem se_X12_worst : Cond.selects yX12_worst.cls yX12_worst yX12_worst ∈ lwG := inK9 70 (by decide +kernel) rfl
theorem im_X12_meet : Cond.instanceMethod yX12_meet ∈ lwG := inK9 73 (by decide +kernel) rfl
theorem se_X12_meet : Cond.selects yX12_meet.cls yX12_meet yX12_meet ∈ lwG := inK9 74 (by decide +kernel) rfl
theorem im_X12_bare : Cond.instanceMethod yX12_bare ∈ lwG := inK9 77 (by decide +kernel) rfl
theorem se_X12_bare : Cond.selects yX12_bare.cls yX12_bare yX12_bare ∈ lwG := inK9 78 (by decide +kernel) rfl
theorem im_X12_load : Cond.instanceMethod yX12_load ∈ lwG := inK9 81 (by decide +kernel) rfl
theorem se_X12_load : Cond.selects yX12_load.cls yX12_load yX12_load ∈ lwG := inK9 82 (by decide +kernel) rfl
theorem im_X12_image : Cond.instanceMethod yX12_image ∈ lwG := inK9 85 (by decide +kernel) rfl
theorem se_X12_image : Cond.selects yX12_image.cls yX12_image yX12_image ∈ lwG := inK9 86 (by decide +kernel) rfl
theorem im_X12_restore : Cond.instanceMethod yX12_restore ∈ lwG := inK9 89 (by decide +kernel) rfl
theorem se_X12_restore : Cond.selects yX12_restore.cls yX12_restore yX12_restore ∈ lwG := inK9 90 (by decide +kernel) rfl
theorem nc_L_8 : Cond.classLink RL 8 RX11 ∈ lwG ∧ Cond.instantiable RX11 17 ∈ lwG ∧ Cond.initialized RX11 ∈ lwG := ⟨inK1 28 (by decide +kernel) rfl, inK1 29 (by decide +kernel) rfl, inK1 1 (by decide +kernel) rfl⟩
theorem ml_L_112 : Cond.methodLink RL 112 yX11_init ∈ lwG := inK1 30 (by decide +kernel) rfl
theorem ob_X11_3 : Cond.methodLink RX11 3 Lib.objectInit ∈ lwG ∧ Cond.instanceMethod Lib.objectInit ∈ lwG ∧ Cond.code Lib.objectInit ⟨#[0xb1]⟩ 1 none ∈ lwG := ⟨inK1 33 (by decide +kernel) rfl, inK1 34 (by decide +kernel) rfl, inK1 35 rfl rfl⟩
theorem nc_X11_29 : Cond.classLink RX11 29 RX9 ∈ lwG ∧ Cond.instantiable RX9 12 ∈ lwG ∧ Cond.initialized RX9 ∈ lwG := ⟨inK1 36 (by decide +kernel) rfl, inK1 37 (by decide +kernel) rfl, inK1 2 (by decide +kernel) rfl⟩
theorem ob_X9_3 : Cond.methodLink RX9 3 Lib.objectInit ∈ lwG ∧ Cond.instanceMethod Lib.objectInit ∈ lwG ∧ Cond.code Lib.objectInit ⟨#[0xb1]⟩ 1 none ∈ lwG := ⟨inK1 41 (by decide +kernel) rfl, inK1 34 (by decide +kernel) rfl, inK1 35 rfl rfl⟩
theorem nc_X9_19 : Cond.classLink RX9 19 RX1 ∈ lwG ∧ Cond.instantiable RX1 6 ∈ lwG ∧ Cond.initialized RX1 ∈ lwG := ⟨inK1 42 (by decide +kernel) rfl, inK1 43 (by decide +kernel) rfl, inK1 3 (by decide +kernel) rfl⟩
theorem ob_X1_3 : Cond.methodLink RX1 3 Lib.objectInit ∈ lwG ∧ Cond.instanceMethod Lib.objectInit ∈ lwG ∧ Cond.code Lib.objectInit ⟨#[0xb1]⟩ 1 none ∈ lwG := ⟨inK1 47 (by decide +kernel) rfl, inK1 34 (by decide +kernel) rfl, inK1 35 rfl rfl⟩
theorem ar_byte : Cond.arrayClass .byte ∈ lwG := inK1 72 (by decide +kernel) rfl
theorem ar_int : Cond.arrayClass .int ∈ lwG := inK1 73 (by decide +kernel) rfl
theorem nc_X9_26 : Cond.classLink RX9 26 RX6 ∈ lwG ∧ Cond.instantiable RX6 3 ∈ lwG ∧ Cond.initialized RX6 ∈ lwG := ⟨inK1 74 (by decide +kernel) rfl, inK1 75 (by decide +kernel) rfl, inK1 4 (by decide +kernel) rfl⟩
theorem ob_X6_1 : Cond.methodLink RX6 1 Lib.objectInit ∈ lwG ∧ Cond.instanceMethod Lib.objectInit ∈ lwG ∧ Cond.code Lib.objectInit ⟨#[0xb1]⟩ 1 none ∈ lwG := ⟨inK1 79 (by decide +kernel) rfl, inK1 34 (by decide +kernel) rfl, inK1 35 rfl rfl⟩
theorem nc_X11_39 : Cond.classLink RX11 39 RX3 ∈ lwG ∧ Cond.instantiable RX3 3 ∈ lwG ∧ Cond.initialized RX3 ∈ lwG := ⟨inK1 154 (by decide +kernel) rfl, inK1 155 (by decide +kernel) rfl, inK1 5 (by decide +kernel) rfl⟩
theorem ob_X3_1 : Cond.methodLink RX3 1 Lib.objectInit ∈ lwG ∧ Cond.instanceMethod Lib.objectInit ∈ lwG ∧ Cond.code Lib.objectInit ⟨#[0xb1]⟩ 1 none ∈ lwG := ⟨inK1 159 (by decide +kernel) rfl, inK1 34 (by decide +kernel) rfl, inK1 35 rfl rfl⟩
theorem nc_X3_7 : Cond.classLink RX3 7 RX2 ∈ lwG ∧ Cond.instantiable RX2 7 ∈ lwG ∧ Cond.initialized RX2 ∈ lwG := ⟨inK1 160 (by decide +kernel) rfl, inK1 161 (by decide +kernel) rfl, inK1 6 (by decide +kernel) rfl⟩
theorem ob_X2_3 : Cond.methodLink RX2 3 Lib.objectInit ∈ lwG ∧ Cond.instanceMethod Lib.objectInit ∈ lwG ∧ Cond.code Lib.objectInit ⟨#[0xb1]⟩ 1 none ∈ lwG := ⟨inK1 165 (by decide +kernel) rfl, inK1 34 (by decide +kernel) rfl, inK1 35 rfl rfl⟩
theorem nc_X3_16 : Cond.classLink RX3 16 RX4 ∈ lwG ∧ Cond.instantiable RX4 3 ∈ lwG ∧ Cond.initialized RX4 ∈ lwG := ⟨inK1 197 (by decide +kernel) rfl, inK1 198 (by decide +kernel) rfl, inK1 7 (by decide +kernel) rfl⟩
theorem ob_X4_3 : Cond.methodLink RX4 3 Lib.objectInit ∈ lwG ∧ Cond.instanceMethod Lib.objectInit ∈ lwG ∧ Cond.code Lib.objectInit ⟨#[0xb1]⟩ 1 none ∈ lwG := ⟨inK1 202 (by decide +kernel) rfl, inK1 34 (by decide +kernel) rfl, inK1 35 rfl rfl⟩
theorem nc_X3_23 : Cond.classLink RX3 23 RX7 ∈ lwG ∧ Cond.instantiable RX7 4 ∈ lwG ∧ Cond.initialized RX7 ∈ lwG := ⟨inK1 214 (by decide +kernel) rfl, inK1 215 (by decide +kernel) rfl, inK1 8 (by decide +kernel) rfl⟩
theorem ob_X7_3 : Cond.methodLink RX7 3 Lib.objectInit ∈ lwG ∧ Cond.instanceMethod Lib.objectInit ∈ lwG ∧ Cond.code Lib.objectInit ⟨#[0xb1]⟩ 1 none ∈ lwG := ⟨inK1 219 (by decide +kernel) rfl, inK1 34 (by decide +kernel) rfl, inK1 35 rfl rfl⟩
theorem nc_X11_53 : Cond.classLink RX11 53 RX2 ∈ lwG ∧ Cond.instantiable RX2 7 ∈ lwG ∧ Cond.initialized RX2 ∈ lwG := ⟨inK2 9 (by decide +kernel) rfl, inK1 161 (by decide +kernel) rfl, inK1 6 (by decide +kernel) rfl⟩
theorem nc_X11_63 : Cond.classLink RX11 63 RX0 ∈ lwG ∧ Cond.instantiable RX0 6 ∈ lwG ∧ Cond.initialized RX0 ∈ lwG := ⟨inK2 11 (by decide +kernel) rfl, inK2 12 (by decide +kernel) rfl, inK1 9 (by decide +kernel) rfl⟩
theorem ob_X0_3 : Cond.methodLink RX0 3 Lib.objectInit ∈ lwG ∧ Cond.instanceMethod Lib.objectInit ∈ lwG ∧ Cond.code Lib.objectInit ⟨#[0xb1]⟩ 1 none ∈ lwG := ⟨inK2 16 (by decide +kernel) rfl, inK1 34 (by decide +kernel) rfl, inK1 35 rfl rfl⟩
theorem nc_X0_9 : Cond.classLink RX0 9 RX2 ∈ lwG ∧ Cond.instantiable RX2 7 ∈ lwG ∧ Cond.initialized RX2 ∈ lwG := ⟨inK2 17 (by decide +kernel) rfl, inK1 161 (by decide +kernel) rfl, inK1 6 (by decide +kernel) rfl⟩
theorem ar_long : Cond.arrayClass .long ∈ lwG := inK2 40 (by decide +kernel) rfl
theorem nc_X11_73 : Cond.classLink RX11 73 RX8 ∈ lwG ∧ Cond.instantiable RX8 3 ∈ lwG ∧ Cond.initialized RX8 ∈ lwG := ⟨inK2 41 (by decide +kernel) rfl, inK2 42 (by decide +kernel) rfl, inK1 10 (by decide +kernel) rfl⟩
theorem ob_X8_3 : Cond.methodLink RX8 3 Lib.objectInit ∈ lwG ∧ Cond.instanceMethod Lib.objectInit ∈ lwG ∧ Cond.code Lib.objectInit ⟨#[0xb1]⟩ 1 none ∈ lwG := ⟨inK2 46 (by decide +kernel) rfl, inK1 34 (by decide +kernel) rfl, inK1 35 rfl rfl⟩
theorem ml_X11_87 : Cond.methodLink RX11 87 yX11_fillUp ∈ lwG := inK2 57 (by decide +kernel) rfl
theorem ml_X11_418 : Cond.methodLink RX11 418 yX2_putStretch ∈ lwG := inK2 60 (by decide +kernel) rfl
theorem ma_X11_422 : Cond.methodLink RX11 422 Lib.Math.max.name ∈ lwG ∧ Cond.static Lib.Math.max.name ∈ lwG ∧ Cond.initialized "java/lang/Math" ∈ lwG ∧ Cond.code Lib.Math.max.name Lib.Math.max.code 2 (some .int) ∈ lwG := ⟨inK2 64 (by decide +kernel) rfl, inK2 65 (by decide +kernel) rfl, inK1 11 (by decide +kernel) rfl, inK2 66 rfl rfl⟩
theorem ml_L_116 : Cond.methodLink RL 116 yX11_feed ∈ lwG := inK2 119 (by decide +kernel) rfl
theorem ml_X11_91 : Cond.methodLink RX11 91 yX11_putBytes ∈ lwG := inK2 123 (by decide +kernel) rfl
theorem ml_L_131 : Cond.methodLink RL 131 yX11_fault ∈ lwG := inK2 127 (by decide +kernel) rfl
theorem ml_L_145 : Cond.methodLink RL 145 yX11_days ∈ lwG := inK2 131 (by decide +kernel) rfl
theorem ml_X11_221 : Cond.methodLink RX11 221 yX11_refuseAct ∈ lwG := inK2 135 (by decide +kernel) rfl
theorem ml_X11_225 : Cond.methodLink RX11 225 yX4_keep ∈ lwG := inK2 139 (by decide +kernel) rfl
theorem ml_X4_28 : Cond.methodLink RX4 28 yX4_placeOf ∈ lwG := inK2 143 (by decide +kernel) rfl
theorem ml_X4_32 : Cond.methodLink RX4 32 yX2_writeTo ∈ lwG := inK2 147 (by decide +kernel) rfl
theorem ac_X2_34 : Cond.methodLink RX2 34 arraycopyName ∈ lwG ∧ Cond.native arraycopyName ∈ lwG ∧ Cond.static arraycopyName ∈ lwG ∧ Cond.initialized "java/lang/System" ∈ lwG := ⟨inK2 151 (by decide +kernel) rfl, inK2 153 (by decide +kernel) rfl, inK2 152 (by decide +kernel) rfl, inK1 24 (by decide +kernel) rfl⟩
theorem ml_X11_228 : Cond.methodLink RX11 228 yX2_passDays ∈ lwG := inK2 154 (by decide +kernel) rfl
theorem ml_X2_98 : Cond.methodLink RX2 98 yX2_passDay ∈ lwG := inK2 158 (by decide +kernel) rfl
theorem ml_X2_102 : Cond.methodLink RX2 102 yX2_isOpen ∈ lwG := inK2 162 (by decide +kernel) rfl
theorem ml_X2_106 : Cond.methodLink RX2 106 yX2_pullsBy ∈ lwG := inK2 166 (by decide +kernel) rfl
theorem ml_X2_84 : Cond.methodLink RX2 84 yX9_worthOf ∈ lwG := inK2 170 (by decide +kernel) rfl
theorem ml_X9_83 : Cond.methodLink RX9 83 yX2_valueOf ∈ lwG := inK2 174 (by decide +kernel) rfl
theorem ml_X2_65 : Cond.methodLink RX2 65 yX2_besideOf ∈ lwG := inK2 178 (by decide +kernel) rfl
theorem ml_X2_52 : Cond.methodLink RX2 52 yX2_womenBits ∈ lwG := inK2 182 (by decide +kernel) rfl
theorem ml_X2_68 : Cond.methodLink RX2 68 yJ6_bitCount_0f7a4 ∈ lwG := inK2 186 (by decide +kernel) rfl
theorem k_J6_265 : Cond.constant RJ6 265 1431655765 ∈ lwG := inK2 189 (by decide +kernel) rfl
theorem k_J6_266 : Cond.constant RJ6 266 858993459 ∈ lwG := inK2 190 (by decide +kernel) rfl
theorem k_J6_267 : Cond.constant RJ6 267 252645135 ∈ lwG := inK2 191 (by decide +kernel) rfl
theorem ml_X9_89 : Cond.methodLink RX9 89 yX9_join ∈ lwG := inK2 192 (by decide +kernel) rfl
theorem ma_X11_427 : Cond.methodLink RX11 427 Lib.Math.min.name ∈ lwG ∧ Cond.static Lib.Math.min.name ∈ lwG ∧ Cond.initialized "java/lang/Math" ∈ lwG ∧ Cond.code Lib.Math.min.name Lib.Math.min.code 2 (some .int) ∈ lwG := ⟨inK2 198 (by decide +kernel) rfl, inK2 199 (by decide +kernel) rfl, inK1 11 (by decide +kernel) rfl, inK2 200 rfl rfl⟩
theorem ml_X2_109 : Cond.methodLink RX2 109 yX2_fraysBy ∈ lwG := inK2 201 (by decide +kernel) rfl
theorem ml_X2_95 : Cond.methodLink RX2 95 yX2_fraysUntold ∈ lwG := inK2 205 (by decide +kernel) rfl
theorem ml_X2_112 : Cond.methodLink RX2 112 yX2_wear ∈ lwG := inK2 209 (by decide +kernel) rfl
theorem ma_X2_56 : Cond.methodLink RX2 56 Lib.Math.max.name ∈ lwG ∧ Cond.static Lib.Math.max.name ∈ lwG ∧ Cond.initialized "java/lang/Math" ∈ lwG ∧ Cond.code Lib.Math.max.name Lib.Math.max.code 2 (some .int) ∈ lwG := ⟨inK2 213 (by decide +kernel) rfl, inK2 65 (by decide +kernel) rfl, inK1 11 (by decide +kernel) rfl, inK2 66 rfl rfl⟩
theorem ml_X2_129 : Cond.methodLink RX2 129 yX9_ahead ∈ lwG := inK2 214 (by decide +kernel) rfl
theorem ml_X2_132 : Cond.methodLink RX2 132 yX2_strainIfClosed ∈ lwG := inK2 218 (by decide +kernel) rfl
theorem ml_X2_139 : Cond.methodLink RX2 139 yX2_addStrain ∈ lwG := inK2 222 (by decide +kernel) rfl
theorem ma_X2_62 : Cond.methodLink RX2 62 Lib.Math.min.name ∈ lwG ∧ Cond.static Lib.Math.min.name ∈ lwG ∧ Cond.initialized "java/lang/Math" ∈ lwG ∧ Cond.code Lib.Math.min.name Lib.Math.min.code 2 (some .int) ∈ lwG := ⟨inK2 226 (by decide +kernel) rfl, inK2 199 (by decide +kernel) rfl, inK1 11 (by decide +kernel) rfl, inK2 200 rfl rfl⟩
theorem ml_X2_136 : Cond.methodLink RX2 136 yX9_after ∈ lwG := inK2 227 (by decide +kernel) rfl
theorem ml_X2_116 : Cond.methodLink RX2 116 yX9_isThursday ∈ lwG := inK2 231 (by decide +kernel) rfl
theorem ml_X2_119 : Cond.methodLink RX2 119 yX2_mendAll ∈ lwG := inK2 235 (by decide +kernel) rfl
theorem ml_X2_122 : Cond.methodLink RX2 122 yX2_mendBy ∈ lwG := inK2 239 (by decide +kernel) rfl
theorem ml_X2_126 : Cond.methodLink RX2 126 yX2_goOn ∈ lwG := inK3 3 (by decide +kernel) rfl
theorem ml_L_164 : Cond.methodLink RL 164 yX11_undo ∈ lwG := inK3 7 (by decide +kernel) rfl
theorem ml_X11_247 : Cond.methodLink RX11 247 yX4_takeBack ∈ lwG := inK3 11 (by decide +kernel) rfl
theorem ml_X4_38 : Cond.methodLink RX4 38 yX2_readFrom ∈ lwG := inK3 15 (by decide +kernel) rfl
theorem ml_L_178 : Cond.methodLink RL 178 yX11_first ∈ lwG := inK3 19 (by decide +kernel) rfl
theorem ml_X11_123 : Cond.methodLink RX11 123 yX2_copyFrom ∈ lwG := inK3 23 (by decide +kernel) rfl
theorem ml_X11_159 : Cond.methodLink RX11 159 yX2_openBits ∈ lwG := inK3 27 (by decide +kernel) rfl
theorem ml_X11_268 : Cond.methodLink RX11 268 yX2_passDay ∈ lwG := inK3 31 (by decide +kernel) rfl
theorem ml_X11_272 : Cond.methodLink RX11 272 yX11_leastBit ∈ lwG := inK3 32 (by decide +kernel) rfl
theorem ml_L_185 : Cond.methodLink RL 185 yX11_spent ∈ lwG := inK3 35 (by decide +kernel) rfl
theorem ml_X11_166 : Cond.methodLink RX11 166 yX2_threadOfAll ∈ lwG := inK3 39 (by decide +kernel) rfl
theorem ml_L_232 : Cond.methodLink RL 232 yX11_steady ∈ lwG := inK3 43 (by decide +kernel) rfl
theorem ml_X11_275 : Cond.methodLink RX11 275 yX2_isLike ∈ lwG := inK3 47 (by decide +kernel) rfl
theorem ml_L_242 : Cond.methodLink RL 242 yX11_gaps ∈ lwG := inK3 51 (by decide +kernel) rfl
theorem ml_X11_323 : Cond.methodLink RX11 323 yX11_rowsOf ∈ lwG := inK3 55 (by decide +kernel) rfl
theorem ml_X11_331 : Cond.methodLink RX11 331 yX9_ahead ∈ lwG := inK3 59 (by decide +kernel) rfl
theorem ml_L_213 : Cond.methodLink RL 213 yX11_forget ∈ lwG := inK3 60 (by decide +kernel) rfl
theorem ml_X11_138 : Cond.methodLink RX11 138 yX7_clear ∈ lwG := inK3 64 (by decide +kernel) rfl
theorem ml_L_258 : Cond.methodLink RL 258 yX11_image ∈ lwG := inK3 68 (by decide +kernel) rfl
theorem ml_X11_407 : Cond.methodLink RX11 407 yX3_copyFrom ∈ lwG := inK3 72 (by decide +kernel) rfl
theorem ml_X3_30 : Cond.methodLink RX3 30 yX2_copyFrom ∈ lwG := inK3 76 (by decide +kernel) rfl
theorem ml_X3_34 : Cond.methodLink RX3 34 yX4_copyFrom ∈ lwG := inK3 77 (by decide +kernel) rfl
theorem ac_X4_22 : Cond.methodLink RX4 22 arraycopyName ∈ lwG ∧ Cond.native arraycopyName ∈ lwG ∧ Cond.static arraycopyName ∈ lwG ∧ Cond.initialized "java/lang/System" ∈ lwG := ⟨inK3 81 (by decide +kernel) rfl, inK2 153 (by decide +kernel) rfl, inK2 152 (by decide +kernel) rfl, inK1 24 (by decide +kernel) rfl⟩
theorem ml_X3_37 : Cond.methodLink RX3 37 yX7_copyFrom ∈ lwG := inK3 82 (by decide +kernel) rfl
theorem ac_X7_25 : Cond.methodLink RX7 25 arraycopyName ∈ lwG ∧ Cond.native arraycopyName ∈ lwG ∧ Cond.static arraycopyName ∈ lwG ∧ Cond.initialized "java/lang/System" ∈ lwG := ⟨inK3 86 (by decide +kernel) rfl, inK2 153 (by decide +kernel) rfl, inK2 152 (by decide +kernel) rfl, inK1 24 (by decide +kernel) rfl⟩
theorem ml_L_262 : Cond.methodLink RL 262 yX11_restore ∈ lwG := inK3 87 (by decide +kernel) rfl
theorem ml_L_121 : Cond.methodLink RL 121 yL_ring ∈ lwG := inK3 91 (by decide +kernel) rfl
theorem ml_L_7 : Cond.methodLink RL 7 yX11_ring ∈ lwG := inK3 95 (by decide +kernel) rfl
theorem ml_X11_102 : Cond.methodLink RX11 102 yX9_clear ∈ lwG := inK3 165 (by decide +kernel) rfl
theorem ml_X9_58 : Cond.methodLink RX9 58 yX6_clear ∈ lwG := inK3 169 (by decide +kernel) rfl
theorem nc_X11_108 : Cond.classLink RX11 108 RX5 ∈ lwG ∧ Cond.instantiable RX5 11 ∈ lwG ∧ Cond.initialized RX5 ∈ lwG := ⟨inK3 173 (by decide +kernel) rfl, inK3 174 (by decide +kernel) rfl, inK1 17 (by decide +kernel) rfl⟩
theorem ml_X11_110 : Cond.methodLink RX11 110 yX5_init ∈ lwG := inK3 175 (by decide +kernel) rfl
theorem ob_X5_3 : Cond.methodLink RX5 3 Lib.objectInit ∈ lwG ∧ Cond.instanceMethod Lib.objectInit ∈ lwG ∧ Cond.code Lib.objectInit ⟨#[0xb1]⟩ 1 none ∈ lwG := ⟨inK3 178 (by decide +kernel) rfl, inK1 34 (by decide +kernel) rfl, inK1 35 rfl rfl⟩
theorem ma_X5_37 : Cond.methodLink RX5 37 Lib.Math.min.name ∈ lwG ∧ Cond.static Lib.Math.min.name ∈ lwG ∧ Cond.initialized "java/lang/Math" ∈ lwG ∧ Cond.code Lib.Math.min.name Lib.Math.min.code 2 (some .int) ∈ lwG := ⟨inK3 179 (by decide +kernel) rfl, inK2 199 (by decide +kernel) rfl, inK1 11 (by decide +kernel) rfl, inK2 200 rfl rfl⟩
theorem ml_X11_113 : Cond.methodLink RX11 113 yX5_readText ∈ lwG := inK3 216 (by decide +kernel) rfl
theorem ml_X5_54 : Cond.methodLink RX5 54 yX5_takeToken ∈ lwG := inK3 220 (by decide +kernel) rfl
theorem ml_X5_61 : Cond.methodLink RX5 61 yX5_kindAt ∈ lwG := inK3 224 (by decide +kernel) rfl
theorem ml_X5_65 : Cond.methodLink RX5 65 yX5_weighNumber ∈ lwG := inK3 228 (by decide +kernel) rfl
theorem ml_X5_57 : Cond.methodLink RX5 57 yX5_readLine ∈ lwG := inK3 232 (by decide +kernel) rfl
theorem ml_X5_86 : Cond.methodLink RX5 86 yX5_isWord ∈ lwG := inK3 238 (by decide +kernel) rfl
theorem ml_X5_68 : Cond.methodLink RX5 68 yX10_isSpelled ∈ lwG := inK4 2 (by decide +kernel) rfl
theorem ml_X10_88 : Cond.methodLink RX10 88 yJ0_length_8abf5 ∈ lwG := inK4 6 (by decide +kernel) rfl
theorem ml_J0_335 : Cond.methodLink RJ0 335 yJ0_coder_7d493 ∈ lwG := inK4 10 (by decide +kernel) rfl
theorem ml_X10_94 : Cond.methodLink RX10 94 yJ0_charAt_5068e ∈ lwG := inK4 16 (by decide +kernel) rfl
theorem ml_J0_492 : Cond.methodLink RJ0 492 yJ0_isLatin1_aae02 ∈ lwG := inK4 20 (by decide +kernel) rfl
theorem ml_J0_495 : Cond.methodLink RJ0 495 yJ1_charAt_3b067 ∈ lwG := inK4 24 (by decide +kernel) rfl
theorem ml_J1_9 : Cond.methodLink RJ1 9 yJ0_checkIndex_df160 ∈ lwG := inK4 27 (by decide +kernel) rfl
theorem ml_J0_1059 : Cond.methodLink RJ0 1059 yJ3_checkIndex_8e157 ∈ lwG := inK4 32 (by decide +kernel) rfl
theorem ml_J0_498 : Cond.methodLink RJ0 498 yJ2_charAt_3b067 ∈ lwG := inK4 35 (by decide +kernel) rfl
theorem ml_J2_67 : Cond.methodLink RJ2 67 yJ2_checkIndex_2214a ∈ lwG := inK4 38 (by decide +kernel) rfl
theorem ml_J2_48 : Cond.methodLink RJ2 48 yJ2_length_9d52b ∈ lwG := inK4 41 (by decide +kernel) rfl
theorem ml_J2_414 : Cond.methodLink RJ2 414 yJ0_checkIndex_df160 ∈ lwG := inK4 44 (by decide +kernel) rfl
theorem ml_J2_71 : Cond.methodLink RJ2 71 yJ2_getChar_3b067 ∈ lwG := inK4 45 (by decide +kernel) rfl
theorem ml_X5_90 : Cond.methodLink RX5 90 yX5_readStretch ∈ lwG := inK4 54 (by decide +kernel) rfl
theorem ml_X5_78 : Cond.methodLink RX5 78 yX5_fail ∈ lwG := inK4 58 (by decide +kernel) rfl
theorem ml_X5_133 : Cond.methodLink RX5 133 yX5_isNumber ∈ lwG := inK4 62 (by decide +kernel) rfl
theorem ml_X5_137 : Cond.methodLink RX5 137 yX2_putStretch ∈ lwG := inK4 66 (by decide +kernel) rfl
theorem ml_X5_143 : Cond.methodLink RX5 143 yX5_passSign ∈ lwG := inK4 67 (by decide +kernel) rfl
theorem ml_X5_74 : Cond.methodLink RX5 74 yX5_isSign ∈ lwG := inK4 71 (by decide +kernel) rfl
theorem ml_X5_96 : Cond.methodLink RX5 96 yX5_readWoman ∈ lwG := inK4 77 (by decide +kernel) rfl
theorem ml_X5_149 : Cond.methodLink RX5 149 yX5_isStretchTold ∈ lwG := inK4 81 (by decide +kernel) rfl
theorem ml_X5_156 : Cond.methodLink RX5 156 yX2_putWoman ∈ lwG := inK4 85 (by decide +kernel) rfl
theorem ml_X5_102 : Cond.methodLink RX5 102 yX5_readKnots ∈ lwG := inK4 91 (by decide +kernel) rfl
theorem ml_X5_173 : Cond.methodLink RX5 173 yX1_has ∈ lwG := inK4 95 (by decide +kernel) rfl
theorem ml_X5_176 : Cond.methodLink RX5 176 yX1_tie ∈ lwG := inK4 99 (by decide +kernel) rfl
theorem ml_X5_108 : Cond.methodLink RX5 108 yX5_readWeek ∈ lwG := inK4 105 (by decide +kernel) rfl
theorem ml_X5_120 : Cond.methodLink RX5 120 yX5_readRule ∈ lwG := inK4 111 (by decide +kernel) rfl
theorem ml_X5_191 : Cond.methodLink RX5 191 yX9_begin ∈ lwG := inK4 115 (by decide +kernel) rfl
theorem ml_X5_195 : Cond.methodLink RX5 195 yX5_readExpr ∈ lwG := inK4 119 (by decide +kernel) rfl
theorem ml_X5_201 : Cond.methodLink RX5 201 yX5_readRank ∈ lwG := inK4 123 (by decide +kernel) rfl
theorem ml_X5_204 : Cond.methodLink RX5 204 yX5_readPart ∈ lwG := inK4 127 (by decide +kernel) rfl
theorem ml_X5_227 : Cond.methodLink RX5 227 yX10_of ∈ lwG := inK4 131 (by decide +kernel) rfl
theorem ml_X10_84 : Cond.methodLink RX10 84 yX10_isSpelled ∈ lwG := inK4 136 (by decide +kernel) rfl
theorem ml_X5_214 : Cond.methodLink RX5 214 yX9_append ∈ lwG := inK4 139 (by decide +kernel) rfl
theorem ml_X5_207 : Cond.methodLink RX5 207 yX5_passNots ∈ lwG := inK4 143 (by decide +kernel) rfl
theorem ml_X5_211 : Cond.methodLink RX5 211 yX5_joint ∈ lwG := inK4 149 (by decide +kernel) rfl
theorem ml_X5_198 : Cond.methodLink RX5 198 yX9_end ∈ lwG := inK4 157 (by decide +kernel) rfl
theorem ml_X11_131 : Cond.methodLink RX11 131 yX4_clear ∈ lwG := inK4 163 (by decide +kernel) rfl
theorem ml_L_135 : Cond.methodLink RL 135 yL_count ∈ lwG := inK4 167 (by decide +kernel) rfl
theorem ml_L_15 : Cond.methodLink RL 15 yX11_count ∈ lwG := inK4 171 (by decide +kernel) rfl
theorem ml_X11_163 : Cond.methodLink RX11 163 yX2_seamOfAll ∈ lwG := inK4 175 (by decide +kernel) rfl
theorem ml_X11_169 : Cond.methodLink RX11 169 yX2_idleBits ∈ lwG := inK4 179 (by decide +kernel) rfl
theorem ml_X2_48 : Cond.methodLink RX2 48 yX2_bareBits ∈ lwG := inK4 183 (by decide +kernel) rfl
theorem ml_L_138 : Cond.methodLink RL 138 yL_stretch ∈ lwG := inK4 203 (by decide +kernel) rfl
theorem ml_L_20 : Cond.methodLink RL 20 yX11_stretch ∈ lwG := inK4 206 (by decide +kernel) rfl
theorem ml_X11_179 : Cond.methodLink RX11 179 yX11_needStretch ∈ lwG := inK4 210 (by decide +kernel) rfl
theorem ml_X11_295 : Cond.methodLink RX11 295 yX11_isStretch ∈ lwG := inK4 214 (by decide +kernel) rfl
theorem ml_X11_191 : Cond.methodLink RX11 191 yX2_womenBits ∈ lwG := inK4 219 (by decide +kernel) rfl
theorem ml_X11_195 : Cond.methodLink RX11 195 yX2_isOpen ∈ lwG := inK4 220 (by decide +kernel) rfl
theorem ml_X11_199 : Cond.methodLink RX11 199 yX2_fraysBy ∈ lwG := inK4 221 (by decide +kernel) rfl
theorem ml_X11_202 : Cond.methodLink RX11 202 yX2_pullsBy ∈ lwG := inK4 222 (by decide +kernel) rfl
theorem ml_L_142 : Cond.methodLink RL 142 yL_woman ∈ lwG := inK4 224 (by decide +kernel) rfl
theorem ml_L_24 : Cond.methodLink RL 24 yX11_woman ∈ lwG := inK4 227 (by decide +kernel) rfl
theorem ml_X11_207 : Cond.methodLink RX11 207 yX11_needWoman ∈ lwG := inK4 231 (by decide +kernel) rfl
theorem ml_L_149 : Cond.methodLink RL 149 yL_mend ∈ lwG := inK4 237 (by decide +kernel) rfl
theorem ml_L_27 : Cond.methodLink RL 27 yX11_mend ∈ lwG := inK5 0 (by decide +kernel) rfl
theorem ml_X11_232 : Cond.methodLink RX11 232 yX2_mendBy ∈ lwG := inK5 4 (by decide +kernel) rfl
theorem ml_X11_235 : Cond.methodLink RX11 235 yX2_seamWhere ∈ lwG := inK5 5 (by decide +kernel) rfl
theorem ml_L_152 : Cond.methodLink RL 152 yL_go ∈ lwG := inK5 9 (by decide +kernel) rfl
theorem ml_L_30 : Cond.methodLink RL 30 yX11_go ∈ lwG := inK5 12 (by decide +kernel) rfl
theorem ml_L_155 : Cond.methodLink RL 155 yL_stitch ∈ lwG := inK5 16 (by decide +kernel) rfl
theorem ml_L_33 : Cond.methodLink RL 33 yX11_stitch ∈ lwG := inK5 19 (by decide +kernel) rfl
theorem ml_L_158 : Cond.methodLink RL 158 yL_thread ∈ lwG := inK5 23 (by decide +kernel) rfl
theorem ml_L_36 : Cond.methodLink RL 36 yX11_thread ∈ lwG := inK5 26 (by decide +kernel) rfl
theorem ml_X11_239 : Cond.methodLink RX11 239 yX2_giveThread ∈ lwG := inK5 30 (by decide +kernel) rfl
theorem ml_L_161 : Cond.methodLink RL 161 yL_tear ∈ lwG := inK5 34 (by decide +kernel) rfl
theorem ml_L_39 : Cond.methodLink RL 39 yX11_tear ∈ lwG := inK5 37 (by decide +kernel) rfl
theorem ml_X11_243 : Cond.methodLink RX11 243 yX2_tearOff ∈ lwG := inK5 41 (by decide +kernel) rfl
theorem ml_L_168 : Cond.methodLink RL 168 yL_then ∈ lwG := inK5 45 (by decide +kernel) rfl
theorem ml_L_42 : Cond.methodLink RL 42 yX11_then ∈ lwG := inK5 48 (by decide +kernel) rfl
theorem ml_X11_250 : Cond.methodLink RX11 250 yX11_needWhat ∈ lwG := inK5 52 (by decide +kernel) rfl
theorem ml_X11_253 : Cond.methodLink RX11 253 yX11_needDays ∈ lwG := inK5 56 (by decide +kernel) rfl
theorem ml_X11_256 : Cond.methodLink RX11 256 yX11_lookAhead ∈ lwG := inK5 60 (by decide +kernel) rfl
theorem ml_L_172 : Cond.methodLink RL 172 yL_later ∈ lwG := inK5 64 (by decide +kernel) rfl
theorem ml_L_46 : Cond.methodLink RL 46 yX11_later ∈ lwG := inK5 67 (by decide +kernel) rfl
theorem ml_X11_259 : Cond.methodLink RX11 259 yX2_tightest ∈ lwG := inK5 71 (by decide +kernel) rfl
theorem ml_X11_262 : Cond.methodLink RX11 262 yX2_mostStrain ∈ lwG := inK5 75 (by decide +kernel) rfl
theorem ml_X11_265 : Cond.methodLink RX11 265 yX2_leastStrain ∈ lwG := inK5 79 (by decide +kernel) rfl
theorem ml_L_175 : Cond.methodLink RL 175 yL_opens ∈ lwG := inK5 83 (by decide +kernel) rfl
theorem ml_L_49 : Cond.methodLink RL 49 yX11_opens ∈ lwG := inK5 86 (by decide +kernel) rfl
theorem ml_L_182 : Cond.methodLink RL 182 yL_where ∈ lwG := inK5 90 (by decide +kernel) rfl
theorem ml_L_52 : Cond.methodLink RL 52 yX11_where ∈ lwG := inK5 93 (by decide +kernel) rfl
theorem ml_L_189 : Cond.methodLink RL 189 yL_toHold ∈ lwG := inK5 97 (by decide +kernel) rfl
theorem ml_L_55 : Cond.methodLink RL 55 yX11_toHold ∈ lwG := inK5 100 (by decide +kernel) rfl
theorem ml_X11_282 : Cond.methodLink RX11 282 yX11_staysClosed ∈ lwG := inK5 104 (by decide +kernel) rfl
theorem ml_L_192 : Cond.methodLink RL 192 yL_toSend ∈ lwG := inK5 108 (by decide +kernel) rfl
theorem ml_L_58 : Cond.methodLink RL 58 yX11_toSend ∈ lwG := inK5 111 (by decide +kernel) rfl
theorem ml_X11_286 : Cond.methodLink RX11 286 yJ6_bitCount_0f7a4 ∈ lwG := inK5 115 (by decide +kernel) rfl
theorem ml_L_195 : Cond.methodLink RL 195 yL_bestStitch ∈ lwG := inK5 116 (by decide +kernel) rfl
theorem ml_L_61 : Cond.methodLink RL 61 yX11_bestStitch ∈ lwG := inK5 119 (by decide +kernel) rfl
theorem ml_L_198 : Cond.methodLink RL 198 yL_sent ∈ lwG := inK5 123 (by decide +kernel) rfl
theorem ml_L_64 : Cond.methodLink RL 64 yX11_sent ∈ lwG := inK5 126 (by decide +kernel) rfl
theorem ml_X11_300 : Cond.methodLink RX11 300 yX8_weigh ∈ lwG := inK5 132 (by decide +kernel) rfl
theorem ml_X8_30 : Cond.methodLink RX8 30 yJ6_bitCount_0f7a4 ∈ lwG := inK5 136 (by decide +kernel) rfl
theorem ml_X8_36 : Cond.methodLink RX8 36 yX8_fewestBehind ∈ lwG := inK5 137 (by decide +kernel) rfl
theorem ml_X8_40 : Cond.methodLink RX8 40 yX8_stepsBy ∈ lwG := inK5 141 (by decide +kernel) rfl
theorem ml_X8_55 : Cond.methodLink RX8 55 yX9_steps ∈ lwG := inK5 145 (by decide +kernel) rfl
theorem ma_X9_64 : Cond.methodLink RX9 64 Lib.Math.abs.name ∈ lwG ∧ Cond.static Lib.Math.abs.name ∈ lwG ∧ Cond.initialized "java/lang/Math" ∈ lwG ∧ Cond.code Lib.Math.abs.name Lib.Math.abs.code 1 (some .int) ∈ lwG := ⟨inK5 149 (by decide +kernel) rfl, inK5 150 (by decide +kernel) rfl, inK1 11 (by decide +kernel) rfl, inK5 151 rfl rfl⟩
theorem ma_X9_70 : Cond.methodLink RX9 70 Lib.Math.min.name ∈ lwG ∧ Cond.static Lib.Math.min.name ∈ lwG ∧ Cond.initialized "java/lang/Math" ∈ lwG ∧ Cond.code Lib.Math.min.name Lib.Math.min.code 2 (some .int) ∈ lwG := ⟨inK5 152 (by decide +kernel) rfl, inK2 199 (by decide +kernel) rfl, inK1 11 (by decide +kernel) rfl, inK2 200 rfl rfl⟩
theorem ma_X8_44 : Cond.methodLink RX8 44 Lib.Math.min.name ∈ lwG ∧ Cond.static Lib.Math.min.name ∈ lwG ∧ Cond.initialized "java/lang/Math" ∈ lwG ∧ Cond.code Lib.Math.min.name Lib.Math.min.code 2 (some .int) ∈ lwG := ⟨inK5 153 (by decide +kernel) rfl, inK2 199 (by decide +kernel) rfl, inK1 11 (by decide +kernel) rfl, inK2 200 rfl rfl⟩
theorem ml_X11_304 : Cond.methodLink RX11 304 yX8_stepsOfAll ∈ lwG := inK5 154 (by decide +kernel) rfl
theorem ml_X11_307 : Cond.methodLink RX11 307 yX8_whoGoesTo ∈ lwG := inK5 158 (by decide +kernel) rfl
theorem ml_X8_58 : Cond.methodLink RX8 58 yX8_whoIsNext ∈ lwG := inK5 162 (by decide +kernel) rfl
theorem ml_L_201 : Cond.methodLink RL 201 yL_closed ∈ lwG := inK5 166 (by decide +kernel) rfl
theorem ml_L_67 : Cond.methodLink RL 67 yX11_closed ∈ lwG := inK5 169 (by decide +kernel) rfl
theorem ml_X11_311 : Cond.methodLink RX11 311 yX11_closedFrom ∈ lwG := inK5 173 (by decide +kernel) rfl
theorem ml_X11_314 : Cond.methodLink RX11 314 yX9_after ∈ lwG := inK5 177 (by decide +kernel) rfl
theorem ml_L_204 : Cond.methodLink RL 204 yL_tight ∈ lwG := inK5 178 (by decide +kernel) rfl
theorem ml_L_70 : Cond.methodLink RL 70 yX11_tight ∈ lwG := inK5 181 (by decide +kernel) rfl
theorem ml_X11_319 : Cond.methodLink RX11 319 yX11_strainFrom ∈ lwG := inK5 186 (by decide +kernel) rfl
theorem ml_L_207 : Cond.methodLink RL 207 yL_readings ∈ lwG := inK5 190 (by decide +kernel) rfl
theorem ml_L_73 : Cond.methodLink RL 73 yX11_readings ∈ lwG := inK5 193 (by decide +kernel) rfl
theorem k_X11_337 : Cond.constant RX11 337 999999999 ∈ lwG := inK5 197 (by decide +kernel) rfl
theorem ml_X11_340 : Cond.methodLink RX11 340 yX1_untie ∈ lwG := inK5 199 (by decide +kernel) rfl
theorem ml_X1_31 : Cond.methodLink RX1 31 yX1_spell ∈ lwG := inK5 203 (by decide +kernel) rfl
theorem ml_X1_35 : Cond.methodLink RX1 35 yX1_untieFrom ∈ lwG := inK5 207 (by decide +kernel) rfl
theorem ml_X1_39 : Cond.methodLink RX1 39 yX1_has ∈ lwG := inK5 211 (by decide +kernel) rfl
theorem ma_X1_43 : Cond.methodLink RX1 43 Lib.Math.min.name ∈ lwG ∧ Cond.static Lib.Math.min.name ∈ lwG ∧ Cond.initialized "java/lang/Math" ∈ lwG ∧ Cond.code Lib.Math.min.name Lib.Math.min.code 2 (some .int) ∈ lwG := ⟨inK5 212 (by decide +kernel) rfl, inK2 199 (by decide +kernel) rfl, inK1 11 (by decide +kernel) rfl, inK2 200 rfl rfl⟩
theorem ml_L_210 : Cond.methodLink RL 210 yL_see ∈ lwG := inK5 213 (by decide +kernel) rfl
theorem ml_L_76 : Cond.methodLink RL 76 yX11_see ∈ lwG := inK5 216 (by decide +kernel) rfl
theorem ml_X11_349 : Cond.methodLink RX11 349 yX7_put ∈ lwG := inK5 220 (by decide +kernel) rfl
theorem ml_L_217 : Cond.methodLink RL 217 yL_torn ∈ lwG := inK5 224 (by decide +kernel) rfl
theorem ml_L_79 : Cond.methodLink RL 79 yX11_torn ∈ lwG := inK5 227 (by decide +kernel) rfl
theorem ml_X11_353 : Cond.methodLink RX11 353 yX0_isSoWithout ∈ lwG := inK5 231 (by decide +kernel) rfl
theorem ml_X0_34 : Cond.methodLink RX0 34 yX2_copyFrom ∈ lwG := inK5 235 (by decide +kernel) rfl
theorem ml_X0_42 : Cond.methodLink RX0 42 yX0_isSo ∈ lwG := inK5 236 (by decide +kernel) rfl
theorem ml_X0_75 : Cond.methodLink RX0 75 yX7_lastDay ∈ lwG := inK6 0 (by decide +kernel) rfl
theorem ma_X7_31 : Cond.methodLink RX7 31 Lib.Math.max.name ∈ lwG ∧ Cond.static Lib.Math.max.name ∈ lwG ∧ Cond.initialized "java/lang/Math" ∈ lwG ∧ Cond.code Lib.Math.max.name Lib.Math.max.code 2 (some .int) ∈ lwG := ⟨inK6 4 (by decide +kernel) rfl, inK2 65 (by decide +kernel) rfl, inK1 11 (by decide +kernel) rfl, inK2 66 rfl rfl⟩
theorem ma_X0_81 : Cond.methodLink RX0 81 Lib.Math.max.name ∈ lwG ∧ Cond.static Lib.Math.max.name ∈ lwG ∧ Cond.initialized "java/lang/Math" ∈ lwG ∧ Cond.code Lib.Math.max.name Lib.Math.max.code 2 (some .int) ∈ lwG := ⟨inK6 5 (by decide +kernel) rfl, inK2 65 (by decide +kernel) rfl, inK1 11 (by decide +kernel) rfl, inK2 66 rfl rfl⟩
theorem ml_X0_84 : Cond.methodLink RX0 84 yX7_isSo ∈ lwG := inK6 6 (by decide +kernel) rfl
theorem ac_X0_87 : Cond.methodLink RX0 87 arraycopyName ∈ lwG ∧ Cond.native arraycopyName ∈ lwG ∧ Cond.static arraycopyName ∈ lwG ∧ Cond.initialized "java/lang/System" ∈ lwG := ⟨inK6 10 (by decide +kernel) rfl, inK2 153 (by decide +kernel) rfl, inK2 152 (by decide +kernel) rfl, inK1 24 (by decide +kernel) rfl⟩
theorem ml_X0_93 : Cond.methodLink RX0 93 yX2_passDay ∈ lwG := inK6 11 (by decide +kernel) rfl
theorem ml_X11_357 : Cond.methodLink RX11 357 yX0_weighTears ∈ lwG := inK6 12 (by decide +kernel) rfl
theorem ma_X0_61 : Cond.methodLink RX0 61 Lib.Math.min.name ∈ lwG ∧ Cond.static Lib.Math.min.name ∈ lwG ∧ Cond.initialized "java/lang/Math" ∈ lwG ∧ Cond.code Lib.Math.min.name Lib.Math.min.code 2 (some .int) ∈ lwG := ⟨inK6 16 (by decide +kernel) rfl, inK2 199 (by decide +kernel) rfl, inK1 11 (by decide +kernel) rfl, inK2 200 rfl rfl⟩
theorem ml_X0_67 : Cond.methodLink RX0 67 yX2_tearOff ∈ lwG := inK6 17 (by decide +kernel) rfl
theorem ml_X0_71 : Cond.methodLink RX0 71 yX0_mark ∈ lwG := inK6 18 (by decide +kernel) rfl
theorem ml_L_220 : Cond.methodLink RL 220 yL_look ∈ lwG := inK6 22 (by decide +kernel) rfl
theorem ml_L_82 : Cond.methodLink RL 82 yX11_look ∈ lwG := inK6 25 (by decide +kernel) rfl
theorem ml_X11_365 : Cond.methodLink RX11 365 yX0_unlikeSeams ∈ lwG := inK6 29 (by decide +kernel) rfl
theorem ml_X0_96 : Cond.methodLink RX0 96 yJ13_bitCount_95d88 ∈ lwG := inK6 33 (by decide +kernel) rfl
theorem k_J13_314 : Cond.constantLong RJ13 314 6148914691236517205 ∈ lwG := inK6 36 (by decide +kernel) rfl
theorem k_J13_316 : Cond.constantLong RJ13 316 3689348814741910323 ∈ lwG := inK6 37 (by decide +kernel) rfl
theorem k_J13_318 : Cond.constantLong RJ13 318 1085102592571150095 ∈ lwG := inK6 38 (by decide +kernel) rfl
theorem ml_L_223 : Cond.methodLink RL 223 yL_gales ∈ lwG := inK6 39 (by decide +kernel) rfl
theorem ml_L_85 : Cond.methodLink RL 85 yX11_gales ∈ lwG := inK6 42 (by decide +kernel) rfl
theorem ml_X11_370 : Cond.methodLink RX11 370 yX11_weightOf ∈ lwG := inK6 47 (by decide +kernel) rfl
theorem ml_X11_374 : Cond.methodLink RX11 374 yX11_blow ∈ lwG := inK6 50 (by decide +kernel) rfl
theorem ml_X11_377 : Cond.methodLink RX11 377 yX2_gale ∈ lwG := inK6 54 (by decide +kernel) rfl
theorem ml_L_226 : Cond.methodLink RL 226 yL_game ∈ lwG := inK6 58 (by decide +kernel) rfl
theorem ml_L_88 : Cond.methodLink RL 88 yX11_game ∈ lwG := inK6 61 (by decide +kernel) rfl
theorem ml_X11_382 : Cond.methodLink RX11 382 yX11_playCouple ∈ lwG := inK6 66 (by decide +kernel) rfl
theorem ml_X11_388 : Cond.methodLink RX11 388 yX11_play ∈ lwG := inK6 70 (by decide +kernel) rfl
theorem ml_X11_394 : Cond.methodLink RX11 394 yX2_goOn ∈ lwG := inK6 74 (by decide +kernel) rfl
theorem ml_X11_391 : Cond.methodLink RX11 391 yX11_seamThen ∈ lwG := inK6 75 (by decide +kernel) rfl
theorem ml_X11_385 : Cond.methodLink RX11 385 yX11_rests ∈ lwG := inK6 79 (by decide +kernel) rfl
theorem ml_L_229 : Cond.methodLink RL 229 yL_years ∈ lwG := inK6 83 (by decide +kernel) rfl
theorem ml_L_91 : Cond.methodLink RL 91 yX11_years ∈ lwG := inK6 86 (by decide +kernel) rfl
theorem ml_X11_397 : Cond.methodLink RX11 397 yX11_befall ∈ lwG := inK6 90 (by decide +kernel) rfl
theorem ml_X11_400 : Cond.methodLink RX11 400 yX11_draw ∈ lwG := inK6 94 (by decide +kernel) rfl
theorem k_X11_406 : Cond.constant RX11 406 1103515245 ∈ lwG := inK6 98 (by decide +kernel) rfl
theorem ml_X11_403 : Cond.methodLink RX11 403 yX2_addStrain ∈ lwG := inK6 99 (by decide +kernel) rfl
theorem ml_L_236 : Cond.methodLink RL 236 yL_nearest ∈ lwG := inK6 100 (by decide +kernel) rfl
theorem ml_L_94 : Cond.methodLink RL 94 yX11_nearest ∈ lwG := inK6 103 (by decide +kernel) rfl
theorem ml_X11_334 : Cond.methodLink RX11 334 yX9_steps ∈ lwG := inK6 107 (by decide +kernel) rfl
theorem ml_L_239 : Cond.methodLink RL 239 yL_far ∈ lwG := inK6 108 (by decide +kernel) rfl
theorem ml_L_97 : Cond.methodLink RL 97 yX11_far ∈ lwG := inK6 111 (by decide +kernel) rfl
theorem ml_L_246 : Cond.methodLink RL 246 yL_worst ∈ lwG := inK6 115 (by decide +kernel) rfl
theorem ml_L_100 : Cond.methodLink RL 100 yX11_worst ∈ lwG := inK6 118 (by decide +kernel) rfl
theorem ml_L_249 : Cond.methodLink RL 249 yL_meet ∈ lwG := inK6 123 (by decide +kernel) rfl
theorem ml_L_103 : Cond.methodLink RL 103 yX11_meet ∈ lwG := inK6 126 (by decide +kernel) rfl
theorem ml_L_252 : Cond.methodLink RL 252 yL_bare ∈ lwG := inK6 130 (by decide +kernel) rfl
theorem ml_L_106 : Cond.methodLink RL 106 yX11_bare ∈ lwG := inK6 133 (by decide +kernel) rfl
theorem ml_X11_279 : Cond.methodLink RX11 279 yX2_bareBits ∈ lwG := inK6 137 (by decide +kernel) rfl
theorem ml_L_255 : Cond.methodLink RL 255 yL_load ∈ lwG := inK6 138 (by decide +kernel) rfl
theorem ml_L_109 : Cond.methodLink RL 109 yX11_load ∈ lwG := inK6 141 (by decide +kernel) rfl
theorem ml_X11_328 : Cond.methodLink RX11 328 yX2_strainedBits ∈ lwG := inK6 146 (by decide +kernel) rfl
theorem nc_L_113 : Cond.classLink RL 113 RX12 ∈ lwG ∧ Cond.instantiable RX12 63 ∈ lwG ∧ Cond.initialized RX12 ∈ lwG := ⟨inK6 150 (by decide +kernel) rfl, inK6 151 (by decide +kernel) rfl, inK1 12 (by decide +kernel) rfl⟩
theorem ml_L_115 : Cond.methodLink RL 115 yX12_init ∈ lwG := inK6 152 (by decide +kernel) rfl
theorem ob_X12_1 : Cond.methodLink RX12 1 Lib.objectInit ∈ lwG ∧ Cond.instanceMethod Lib.objectInit ∈ lwG ∧ Cond.code Lib.objectInit ⟨#[0xb1]⟩ 1 none ∈ lwG := ⟨inK6 155 (by decide +kernel) rfl, inK1 34 (by decide +kernel) rfl, inK1 35 rfl rfl⟩
theorem ar_boolean : Cond.arrayClass .boolean ∈ lwG := inK7 106 (by decide +kernel) rfl
theorem ml_L_127 : Cond.methodLink RL 127 yX12_thrown ∈ lwG := inK7 107 (by decide +kernel) rfl
theorem ml_L_120 : Cond.methodLink RL 120 yX12_feed ∈ lwG := inK7 111 (by decide +kernel) rfl
theorem ml_X12_123 : Cond.methodLink RX12 123 yX12_lays ∈ lwG := inK7 115 (by decide +kernel) rfl
theorem ml_L_126 : Cond.methodLink RL 126 yX12_ring ∈ lwG := inK7 119 (by decide +kernel) rfl
theorem ml_X12_277 : Cond.methodLink RX12 277 yX12_right ∈ lwG := inK7 123 (by decide +kernel) rfl
theorem ml_X12_180 : Cond.methodLink RX12 180 yX12_goes ∈ lwG := inK7 127 (by decide +kernel) rfl
theorem ml_X12_133 : Cond.methodLink RX12 133 yX12_byteAt ∈ lwG := inK7 131 (by decide +kernel) rfl
theorem ml_X12_153 : Cond.methodLink RX12 153 yX12_isLetter ∈ lwG := inK7 135 (by decide +kernel) rfl
theorem ml_X12_157 : Cond.methodLink RX12 157 yX12_isDigit ∈ lwG := inK7 138 (by decide +kernel) rfl
theorem ml_X12_176 : Cond.methodLink RX12 176 yX12_isGood ∈ lwG := inK7 141 (by decide +kernel) rfl
theorem ml_X12_281 : Cond.methodLink RX12 281 yX12_line ∈ lwG := inK7 145 (by decide +kernel) rfl
theorem ml_X12_201 : Cond.methodLink RX12 201 yX12_knownWord ∈ lwG := inK7 149 (by decide +kernel) rfl
theorem ml_X12_169 : Cond.methodLink RX12 169 yX12_letters ∈ lwG := inK7 153 (by decide +kernel) rfl
theorem ml_X12_165 : Cond.methodLink RX12 165 yX12_spelled ∈ lwG := inK7 156 (by decide +kernel) rfl
theorem k_X12_163 : Cond.constantLong RX12 163 96 ∈ lwG := inK7 159 (by decide +kernel) rfl
theorem ml_X12_249 : Cond.methodLink RX12 249 yX12_begins ∈ lwG := inK7 160 (by decide +kernel) rfl
theorem ml_X12_183 : Cond.methodLink RX12 183 yX12_wrong ∈ lwG := inK7 164 (by decide +kernel) rfl
theorem ml_X12_253 : Cond.methodLink RX12 253 yX12_readsStretch ∈ lwG := inK7 168 (by decide +kernel) rfl
theorem ml_X12_236 : Cond.methodLink RX12 236 yX12_number ∈ lwG := inK7 172 (by decide +kernel) rfl
theorem ml_X12_256 : Cond.methodLink RX12 256 yX12_readsWoman ∈ lwG := inK7 176 (by decide +kernel) rfl
theorem ml_X12_259 : Cond.methodLink RX12 259 yX12_readsKnots ∈ lwG := inK7 180 (by decide +kernel) rfl
theorem ml_X12_246 : Cond.methodLink RX12 246 yX12_isKnot ∈ lwG := inK7 184 (by decide +kernel) rfl
theorem ml_X12_268 : Cond.methodLink RX12 268 yX12_expression ∈ lwG := inK7 188 (by decide +kernel) rfl
theorem ml_X12_214 : Cond.methodLink RX12 214 yX12_deeper ∈ lwG := inK7 192 (by decide +kernel) rfl
theorem ml_X12_208 : Cond.methodLink RX12 208 yX12_isSign ∈ lwG := inK7 196 (by decide +kernel) rfl
theorem ml_X12_223 : Cond.methodLink RX12 223 yX12_operand ∈ lwG := inK7 200 (by decide +kernel) rfl
theorem ml_X12_211 : Cond.methodLink RX12 211 yX12_waitsFor ∈ lwG := inK7 204 (by decide +kernel) rfl
theorem ml_X12_217 : Cond.methodLink RX12 217 yX12_part ∈ lwG := inK7 208 (by decide +kernel) rfl
theorem ml_X12_198 : Cond.methodLink RX12 198 yX12_puts ∈ lwG := inK7 212 (by decide +kernel) rfl
theorem ml_X12_220 : Cond.methodLink RX12 220 yX12_drops ∈ lwG := inK7 216 (by decide +kernel) rfl
theorem ml_X12_192 : Cond.methodLink RX12 192 yX12_isOpen ∈ lwG := inK7 220 (by decide +kernel) rfl
theorem ml_X12_195 : Cond.methodLink RX12 195 yX12_strength ∈ lwG := inK7 223 (by decide +kernel) rfl
theorem ml_X12_227 : Cond.methodLink RX12 227 yX12_isOpened ∈ lwG := inK7 226 (by decide +kernel) rfl
theorem ml_X12_230 : Cond.methodLink RX12 230 yX12_closes ∈ lwG := inK7 230 (by decide +kernel) rfl
theorem ml_X12_274 : Cond.methodLink RX12 274 yX12_need ∈ lwG := inK7 234 (by decide +kernel) rfl
theorem ml_X12_290 : Cond.methodLink RX12 290 yX12_copies ∈ lwG := inK7 238 (by decide +kernel) rfl
theorem ml_L_134 : Cond.methodLink RL 134 yX12_fault ∈ lwG := inK8 2 (by decide +kernel) rfl
theorem ml_L_167 : Cond.methodLink RL 167 yX12_undo ∈ lwG := inK8 6 (by decide +kernel) rfl
theorem ml_L_137 : Cond.methodLink RL 137 yX12_count ∈ lwG := inK8 10 (by decide +kernel) rfl
theorem ml_X12_362 : Cond.methodLink RX12 362 yX12_within ∈ lwG := inK8 14 (by decide +kernel) rfl
theorem ml_X12_366 : Cond.methodLink RX12 366 yX12_openOnes ∈ lwG := inK8 17 (by decide +kernel) rfl
theorem ml_X12_326 : Cond.methodLink RX12 326 yX12_isGap ∈ lwG := inK8 21 (by decide +kernel) rfl
theorem ml_X12_369 : Cond.methodLink RX12 369 yX12_sumOf ∈ lwG := inK8 25 (by decide +kernel) rfl
theorem ml_X12_372 : Cond.methodLink RX12 372 yX12_idle ∈ lwG := inK8 29 (by decide +kernel) rfl
theorem ml_X12_317 : Cond.methodLink RX12 317 yX12_womenAt ∈ lwG := inK8 33 (by decide +kernel) rfl
theorem ml_L_141 : Cond.methodLink RL 141 yX12_stretch ∈ lwG := inK8 37 (by decide +kernel) rfl
theorem ml_X12_375 : Cond.methodLink RX12 375 yX12_isStretch ∈ lwG := inK8 41 (by decide +kernel) rfl
theorem ml_X12_378 : Cond.methodLink RX12 378 yX12_isWhat ∈ lwG := inK8 45 (by decide +kernel) rfl
theorem ml_X12_346 : Cond.methodLink RX12 346 yX12_fraysOf ∈ lwG := inK8 49 (by decide +kernel) rfl
theorem ml_X12_330 : Cond.methodLink RX12 330 yX12_asks ∈ lwG := inK8 53 (by decide +kernel) rfl
theorem ml_X12_314 : Cond.methodLink RX12 314 yX12_besideOf ∈ lwG := inK8 57 (by decide +kernel) rfl
theorem ml_X12_308 : Cond.methodLink RX12 308 yX12_ahead1 ∈ lwG := inK8 61 (by decide +kernel) rfl
theorem ml_X12_311 : Cond.methodLink RX12 311 yX12_behind1 ∈ lwG := inK8 65 (by decide +kernel) rfl
theorem ml_X12_320 : Cond.methodLink RX12 320 yX12_bits ∈ lwG := inK8 69 (by decide +kernel) rfl
theorem ml_X12_323 : Cond.methodLink RX12 323 yX12_reckons ∈ lwG := inK8 72 (by decide +kernel) rfl
theorem ml_X12_304 : Cond.methodLink RX12 304 yX12_works ∈ lwG := inK8 76 (by decide +kernel) rfl
theorem ml_X12_333 : Cond.methodLink RX12 333 yX12_bounded ∈ lwG := inK8 79 (by decide +kernel) rfl
theorem ml_X12_343 : Cond.methodLink RX12 343 yX12_pullsOf ∈ lwG := inK8 82 (by decide +kernel) rfl
theorem ml_L_144 : Cond.methodLink RL 144 yX12_woman ∈ lwG := inK8 86 (by decide +kernel) rfl
theorem ml_X12_381 : Cond.methodLink RX12 381 yX12_isWoman ∈ lwG := inK8 90 (by decide +kernel) rfl
theorem ml_L_148 : Cond.methodLink RL 148 yX12_days ∈ lwG := inK8 94 (by decide +kernel) rfl
theorem ml_X12_384 : Cond.methodLink RX12 384 yX12_refuses ∈ lwG := inK8 98 (by decide +kernel) rfl
theorem ml_X12_387 : Cond.methodLink RX12 387 yX12_keeps ∈ lwG := inK8 102 (by decide +kernel) rfl
theorem ml_X12_359 : Cond.methodLink RX12 359 yX12_dayGoes ∈ lwG := inK8 106 (by decide +kernel) rfl
theorem ml_X12_349 : Cond.methodLink RX12 349 yX12_loosens ∈ lwG := inK8 110 (by decide +kernel) rfl
theorem ml_X12_339 : Cond.methodLink RX12 339 yX12_strains ∈ lwG := inK8 114 (by decide +kernel) rfl
theorem ml_X12_336 : Cond.methodLink RX12 336 yX12_lesser ∈ lwG := inK8 118 (by decide +kernel) rfl
theorem ml_X12_352 : Cond.methodLink RX12 352 yX12_mends ∈ lwG := inK8 121 (by decide +kernel) rfl
theorem ml_X12_356 : Cond.methodLink RX12 356 yX12_goesOn ∈ lwG := inK8 125 (by decide +kernel) rfl
theorem ml_L_151 : Cond.methodLink RL 151 yX12_mend ∈ lwG := inK8 129 (by decide +kernel) rfl
theorem ml_L_154 : Cond.methodLink RL 154 yX12_go ∈ lwG := inK8 133 (by decide +kernel) rfl
theorem ml_L_157 : Cond.methodLink RL 157 yX12_stitch ∈ lwG := inK8 137 (by decide +kernel) rfl
theorem ml_L_160 : Cond.methodLink RL 160 yX12_thread ∈ lwG := inK8 141 (by decide +kernel) rfl
theorem ml_L_163 : Cond.methodLink RL 163 yX12_tear ∈ lwG := inK8 145 (by decide +kernel) rfl
theorem ml_L_171 : Cond.methodLink RL 171 yX12_then ∈ lwG := inK8 149 (by decide +kernel) rfl
theorem ml_X12_396 : Cond.methodLink RX12 396 yX12_isDays ∈ lwG := inK8 153 (by decide +kernel) rfl
theorem ml_X12_399 : Cond.methodLink RX12 399 yX12_goesTo ∈ lwG := inK8 157 (by decide +kernel) rfl
theorem ml_X12_390 : Cond.methodLink RX12 390 yX12_tries ∈ lwG := inK8 161 (by decide +kernel) rfl
theorem ml_X12_393 : Cond.methodLink RX12 393 yX12_daysGo ∈ lwG := inK8 165 (by decide +kernel) rfl
theorem ml_L_174 : Cond.methodLink RL 174 yX12_later ∈ lwG := inK8 169 (by decide +kernel) rfl
theorem ml_X12_402 : Cond.methodLink RX12 402 yX12_extreme ∈ lwG := inK8 173 (by decide +kernel) rfl
theorem ml_L_177 : Cond.methodLink RL 177 yX12_opens ∈ lwG := inK8 177 (by decide +kernel) rfl
theorem ml_X12_407 : Cond.methodLink RX12 407 yX12_opensIn ∈ lwG := inK8 181 (by decide +kernel) rfl
theorem k_X12_406 : Cond.constant RX12 406 99999 ∈ lwG := inK8 185 (by decide +kernel) rfl
theorem ml_L_181 : Cond.methodLink RL 181 yX12_first ∈ lwG := inK8 186 (by decide +kernel) rfl
theorem ml_L_184 : Cond.methodLink RL 184 yX12_where ∈ lwG := inK8 190 (by decide +kernel) rfl
theorem ml_L_188 : Cond.methodLink RL 188 yX12_spent ∈ lwG := inK8 194 (by decide +kernel) rfl
theorem ml_L_191 : Cond.methodLink RL 191 yX12_toHold ∈ lwG := inK8 198 (by decide +kernel) rfl
theorem ml_L_194 : Cond.methodLink RL 194 yX12_toSend ∈ lwG := inK8 202 (by decide +kernel) rfl
theorem ml_L_197 : Cond.methodLink RL 197 yX12_bestStitch ∈ lwG := inK8 206 (by decide +kernel) rfl
theorem ml_L_200 : Cond.methodLink RL 200 yX12_sent ∈ lwG := inK8 210 (by decide +kernel) rfl
theorem ml_X12_413 : Cond.methodLink RX12 413 yX12_byWoman ∈ lwG := inK8 214 (by decide +kernel) rfl
theorem ml_X12_410 : Cond.methodLink RX12 410 yX12_stepsBy ∈ lwG := inK8 218 (by decide +kernel) rfl
theorem ml_L_203 : Cond.methodLink RL 203 yX12_closed ∈ lwG := inK8 222 (by decide +kernel) rfl
theorem ml_L_206 : Cond.methodLink RL 206 yX12_tight ∈ lwG := inK8 226 (by decide +kernel) rfl
theorem ml_L_245 : Cond.methodLink RL 245 yX12_gaps ∈ lwG := inK8 230 (by decide +kernel) rfl
theorem ml_L_209 : Cond.methodLink RL 209 yX12_readings ∈ lwG := inK8 234 (by decide +kernel) rfl
theorem k_X12_416 : Cond.constant RX12 416 999999999 ∈ lwG := inK8 238 (by decide +kernel) rfl
theorem ml_X12_417 : Cond.methodLink RX12 417 yX12_isHere ∈ lwG := inK8 239 (by decide +kernel) rfl
theorem ml_L_212 : Cond.methodLink RL 212 yX12_see ∈ lwG := inK9 3 (by decide +kernel) rfl
theorem ml_L_216 : Cond.methodLink RL 216 yX12_forget ∈ lwG := inK9 7 (by decide +kernel) rfl
theorem ml_L_219 : Cond.methodLink RL 219 yX12_torn ∈ lwG := inK9 11 (by decide +kernel) rfl
theorem ml_X12_420 : Cond.methodLink RX12 420 yX12_isSeen ∈ lwG := inK9 15 (by decide +kernel) rfl
theorem ml_X12_423 : Cond.methodLink RX12 423 yX12_isGuess ∈ lwG := inK9 19 (by decide +kernel) rfl
theorem ml_L_222 : Cond.methodLink RL 222 yX12_look ∈ lwG := inK9 23 (by decide +kernel) rfl
theorem ml_L_225 : Cond.methodLink RL 225 yX12_gales ∈ lwG := inK9 27 (by decide +kernel) rfl
theorem ml_L_228 : Cond.methodLink RL 228 yX12_game ∈ lwG := inK9 31 (by decide +kernel) rfl
theorem ml_X12_429 : Cond.methodLink RX12 429 yX12_gains ∈ lwG := inK9 35 (by decide +kernel) rfl
theorem ml_X12_426 : Cond.methodLink RX12 426 yX12_plays ∈ lwG := inK9 39 (by decide +kernel) rfl
theorem ml_L_231 : Cond.methodLink RL 231 yX12_years ∈ lwG := inK9 43 (by decide +kernel) rfl
theorem ml_X12_440 : Cond.methodLink RX12 440 yX12_happens ∈ lwG := inK9 47 (by decide +kernel) rfl
theorem ml_X12_437 : Cond.methodLink RX12 437 yX12_draw ∈ lwG := inK9 51 (by decide +kernel) rfl
theorem k_X12_436 : Cond.constant RX12 436 1103515245 ∈ lwG := inK9 55 (by decide +kernel) rfl
theorem ml_L_235 : Cond.methodLink RL 235 yX12_steady ∈ lwG := inK9 56 (by decide +kernel) rfl
theorem ml_L_238 : Cond.methodLink RL 238 yX12_nearest ∈ lwG := inK9 60 (by decide +kernel) rfl
theorem ml_L_241 : Cond.methodLink RL 241 yX12_far ∈ lwG := inK9 64 (by decide +kernel) rfl
theorem ml_L_248 : Cond.methodLink RL 248 yX12_worst ∈ lwG := inK9 68 (by decide +kernel) rfl
theorem ml_L_251 : Cond.methodLink RL 251 yX12_meet ∈ lwG := inK9 72 (by decide +kernel) rfl
theorem ml_L_254 : Cond.methodLink RL 254 yX12_bare ∈ lwG := inK9 76 (by decide +kernel) rfl
theorem ml_L_257 : Cond.methodLink RL 257 yX12_load ∈ lwG := inK9 80 (by decide +kernel) rfl
theorem ml_L_261 : Cond.methodLink RL 261 yX12_image ∈ lwG := inK9 84 (by decide +kernel) rfl
theorem ml_L_266 : Cond.methodLink RL 266 yX12_restore ∈ lwG := inK9 88 (by decide +kernel) rfl
