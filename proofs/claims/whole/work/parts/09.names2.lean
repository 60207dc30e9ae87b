/-! ===== methods, fields, calls by name (printed by wip/whole/gen/mk08.py) ===== -/
theorem hin_of {C : String} {T : u_T} {N : Nat} (ps : List Nat) (h : u_ws C T N = ps.filterMap (fun i => lw_tbl[i]?)) (hg : (u_ws C T N).all goodWord = true) : ∀ w ∈ u_ws C T N, w ∈ gws := by
  intro w hw
  have h1 := List.all_eq_true.mp hg w hw
  rw [h] at hw
  obtain ⟨i, -, hi⟩ := List.mem_filterMap.mp hw
  exact gws_in i hi h1
theorem hinX0 : ∀ w ∈ u_ws RX0 TX0 14, w ∈ gws := hin_of [171, 173, 175, 177, 179, 181, 183, 185, 187, 189, 191, 193, 195, 197] (by decide +kernel) (by decide +kernel)
theorem hinX1 : ∀ w ∈ u_ws RX1 TX1 5, w ∈ gws := hin_of [395, 397, 399, 401, 403] (by decide +kernel) (by decide +kernel)
theorem hinX2 : ∀ w ∈ u_ws RX2 TX2 2, w ∈ gws := hin_of [346, 348] (by decide +kernel) (by decide +kernel)
theorem hinX3 : ∀ w ∈ u_ws RX3 TX3 7, w ∈ gws := hin_of [367, 369, 371, 373, 375, 377, 379] (by decide +kernel) (by decide +kernel)
theorem hinX4 : ∀ w ∈ u_ws RX4 TX4 4, w ∈ gws := hin_of [292, 294, 296, 298] (by decide +kernel) (by decide +kernel)
theorem hinX5 : ∀ w ∈ u_ws RX5 TX5 9, w ∈ gws := hin_of [216, 218, 220, 222, 224, 226, 228, 230, 232] (by decide +kernel) (by decide +kernel)
theorem hinX6 : ∀ w ∈ u_ws RX6 TX6 2, w ∈ gws := hin_of [254, 256] (by decide +kernel) (by decide +kernel)
theorem hinX7 : ∀ w ∈ u_ws RX7 TX7 4, w ∈ gws := hin_of [277, 279, 281, 283] (by decide +kernel) (by decide +kernel)
theorem hinX8 : ∀ w ∈ u_ws RX8 TX8 7, w ∈ gws := hin_of [321, 323, 325, 327, 329, 331, 333] (by decide +kernel) (by decide +kernel)
theorem hinX9 : ∀ w ∈ u_ws RX9 TX9 4, w ∈ gws := hin_of [417, 419, 421, 423] (by decide +kernel) (by decide +kernel)
theorem hinX11 : ∀ w ∈ u_ws RX11 TX11 16, w ∈ gws := hin_of [442, 444, 446, 448, 450, 452, 454, 456, 458, 460, 462, 464, 466, 468, 470, 472] (by decide +kernel) (by decide +kernel)
theorem hinX12 : ∀ w ∈ u_ws RX12 TX12 67, w ∈ gws := hin_of [1243, 1245, 1247, 1249, 1251, 1253, 1255, 1257, 1259, 1261, 1263, 1265, 1267, 1269, 1271, 1273, 1275, 1277, 1279, 1281, 1283, 1285, 1287, 1289, 1291, 1293, 1295, 1297, 1299, 1301, 1303, 1305, 1307, 1309, 1311, 1313, 1315, 1317, 1319, 1321, 1323, 1325, 1327, 1329, 1331, 1333, 1335, 1337, 1339, 1341, 1343, 1345, 1347, 1349, 1351, 1353, 1355, 1357, 1359, 1361, 1363, 1365, 1367, 1369, 1371, 1373, 1375] (by decide +kernel) (by decide +kernel)
theorem flX11_10 : FL RX11 10 10 0 := ⟨RX11, TX11, 16, tyX11, rfl, by decide, hinX11, tyX11_ok, nmX11, wd_426, (fun h => absurd h (by decide)), (fun h => absurd h (by decide)), (fun h => absurd h (by decide))⟩
theorem flX11_19 : FL RX11 19 10 1 := ⟨RX11, TX11, 16, tyX11, rfl, by decide, hinX11, tyX11_ok, nmX11, wd_427, (fun h => absurd h (by decide)), (fun h => absurd h (by decide)), (fun _ => ⟨⟨_, rfl⟩, rfl⟩)⟩
theorem flX11_23 : FL RX11 23 10 2 := ⟨RX11, TX11, 16, tyX11, rfl, by decide, hinX11, tyX11_ok, nmX11, wd_428, (fun h => absurd h (by decide)), (fun h => absurd h (by decide)), (fun h => absurd h (by decide))⟩
theorem flX11_27 : FL RX11 27 10 3 := ⟨RX11, TX11, 16, tyX11, rfl, by decide, hinX11, tyX11_ok, nmX11, wd_429, (fun _ => ⟨rfl, rfl⟩), (fun h => absurd h (by decide)), (fun h => absurd h (by decide))⟩
theorem flX11_31 : FL RX11 31 10 4 := ⟨RX11, TX11, 16, tyX11, rfl, by decide, hinX11, tyX11_ok, nmX11, wd_430, (fun _ => ⟨rfl, rfl⟩), (fun h => absurd h (by decide)), (fun h => absurd h (by decide))⟩
theorem flX11_37 : FL RX11 37 10 5 := ⟨RX11, TX11, 16, tyX11, rfl, by decide, hinX11, tyX11_ok, nmX11, wd_431, (fun h => absurd h (by decide)), (fun h => absurd h (by decide)), (fun h => absurd h (by decide))⟩
theorem flX11_46 : FL RX11 46 10 6 := ⟨RX11, TX11, 16, tyX11, rfl, by decide, hinX11, tyX11_ok, nmX11, wd_432, (fun h => absurd h (by decide)), (fun h => absurd h (by decide)), (fun h => absurd h (by decide))⟩
theorem flX11_50 : FL RX11 50 10 7 := ⟨RX11, TX11, 16, tyX11, rfl, by decide, hinX11, tyX11_ok, nmX11, wd_433, (fun h => absurd h (by decide)), (fun h => absurd h (by decide)), (fun h => absurd h (by decide))⟩
theorem flX11_53 : FL RX11 53 10 8 := ⟨RX11, TX11, 16, tyX11, rfl, by decide, hinX11, tyX11_ok, nmX11, wd_434, (fun h => absurd h (by decide)), (fun h => absurd h (by decide)), (fun h => absurd h (by decide))⟩
theorem flX11_57 : FL RX11 57 10 9 := ⟨RX11, TX11, 16, tyX11, rfl, by decide, hinX11, tyX11_ok, nmX11, wd_435, (fun h => absurd h (by decide)), (fun _ => ⟨rfl, rfl⟩), (fun h => absurd h (by decide))⟩
theorem flX11_64 : FL RX11 64 10 10 := ⟨RX11, TX11, 16, tyX11, rfl, by decide, hinX11, tyX11_ok, nmX11, wd_436, (fun h => absurd h (by decide)), (fun h => absurd h (by decide)), (fun h => absurd h (by decide))⟩
theorem flX11_68 : FL RX11 68 10 11 := ⟨RX11, TX11, 16, tyX11, rfl, by decide, hinX11, tyX11_ok, nmX11, wd_437, (fun h => absurd h (by decide)), (fun h => absurd h (by decide)), (fun h => absurd h (by decide))⟩
theorem flX11_74 : FL RX11 74 10 12 := ⟨RX11, TX11, 16, tyX11, rfl, by decide, hinX11, tyX11_ok, nmX11, wd_438, (fun h => absurd h (by decide)), (fun h => absurd h (by decide)), (fun h => absurd h (by decide))⟩
theorem flX11_81 : FL RX11 81 10 13 := ⟨RX11, TX11, 16, tyX11, rfl, by decide, hinX11, tyX11_ok, nmX11, wd_439, (fun h => absurd h (by decide)), (fun h => absurd h (by decide)), (fun h => absurd h (by decide))⟩
theorem flX11_88 : FL RX11 88 10 14 := ⟨RX11, TX11, 16, tyX11, rfl, by decide, hinX11, tyX11_ok, nmX11, wd_440, (fun h => absurd h (by decide)), (fun h => absurd h (by decide)), (fun h => absurd h (by decide))⟩
theorem flX11_95 : FL RX11 95 10 15 := ⟨RX11, TX11, 16, tyX11, rfl, by decide, hinX11, tyX11_ok, nmX11, wd_441, (fun h => absurd h (by decide)), (fun h => absurd h (by decide)), (fun h => absurd h (by decide))⟩
theorem flX11_99 : FL RX11 99 5 0 := ⟨RX5, TX5, 9, tyX5, rfl, by decide, hinX5, tyX5_ok, nmX5, wd_205, (fun _ => ⟨rfl, rfl⟩), (fun h => absurd h (by decide)), (fun h => absurd h (by decide))⟩
theorem flX11_116 : FL RX11 116 5 1 := ⟨RX5, TX5, 9, tyX5, rfl, by decide, hinX5, tyX5_ok, nmX5, wd_207, (fun _ => ⟨rfl, rfl⟩), (fun h => absurd h (by decide)), (fun h => absurd h (by decide))⟩
theorem flX11_123 : FL RX11 123 0 0 := ⟨RX0, TX0, 14, tyX0, rfl, by decide, hinX0, tyX0_ok, nmX0, wd_131, (fun _ => ⟨rfl, rfl⟩), (fun h => absurd h (by decide)), (fun h => absurd h (by decide))⟩
theorem flX11_126 : FL RX11 126 5 2 := ⟨RX5, TX5, 9, tyX5, rfl, by decide, hinX5, tyX5_ok, nmX5, wd_209, (fun _ => ⟨rfl, rfl⟩), (fun h => absurd h (by decide)), (fun h => absurd h (by decide))⟩
theorem flX11_129 : FL RX11 129 0 7 := ⟨RX0, TX0, 14, tyX0, rfl, by decide, hinX0, tyX0_ok, nmX0, wd_154, (fun _ => ⟨rfl, rfl⟩), (fun h => absurd h (by decide)), (fun h => absurd h (by decide))⟩
theorem flX11_132 : FL RX11 132 9 0 := ⟨RX9, TX9, 4, tyX9, rfl, by decide, hinX9, tyX9_ok, nmX9, wd_413, (fun _ => ⟨rfl, rfl⟩), (fun h => absurd h (by decide)), (fun h => absurd h (by decide))⟩
theorem flX11_138 : FL RX11 138 8 2 := ⟨RX8, TX8, 7, tyX8, rfl, by decide, hinX8, tyX8_ok, nmX8, wd_316, (fun _ => ⟨rfl, rfl⟩), (fun h => absurd h (by decide)), (fun h => absurd h (by decide))⟩
theorem flX11_141 : FL RX11 141 8 1 := ⟨RX8, TX8, 7, tyX8, rfl, by decide, hinX8, tyX8_ok, nmX8, wd_313, (fun _ => ⟨rfl, rfl⟩), (fun h => absurd h (by decide)), (fun h => absurd h (by decide))⟩
theorem flX11_156 : FL RX11 156 0 2 := ⟨RX0, TX0, 14, tyX0, rfl, by decide, hinX0, tyX0_ok, nmX0, wd_138, (fun h => absurd h (by decide)), (fun h => absurd h (by decide)), (fun h => absurd h (by decide))⟩
theorem flX11_163 : FL RX11 163 7 0 := ⟨RX7, TX7, 4, tyX7, rfl, by decide, hinX7, tyX7_ok, nmX7, wd_267, (fun _ => ⟨rfl, rfl⟩), (fun h => absurd h (by decide)), (fun h => absurd h (by decide))⟩
theorem flX11_164 : FL RX11 164 0 4 := ⟨RX0, TX0, 14, tyX0, rfl, by decide, hinX0, tyX0_ok, nmX0, wd_143, (fun h => absurd h (by decide)), (fun h => absurd h (by decide)), (fun h => absurd h (by decide))⟩
theorem flX11_167 : FL RX11 167 0 5 := ⟨RX0, TX0, 14, tyX0, rfl, by decide, hinX0, tyX0_ok, nmX0, wd_147, (fun h => absurd h (by decide)), (fun h => absurd h (by decide)), (fun h => absurd h (by decide))⟩
theorem flX11_170 : FL RX11 170 0 6 := ⟨RX0, TX0, 14, tyX0, rfl, by decide, hinX0, tyX0_ok, nmX0, wd_150, (fun h => absurd h (by decide)), (fun h => absurd h (by decide)), (fun h => absurd h (by decide))⟩
theorem flX11_197 : FL RX11 197 0 8 := ⟨RX0, TX0, 14, tyX0, rfl, by decide, hinX0, tyX0_ok, nmX0, wd_158, (fun h => absurd h (by decide)), (fun h => absurd h (by decide)), (fun h => absurd h (by decide))⟩
theorem flX11_200 : FL RX11 200 0 9 := ⟨RX0, TX0, 14, tyX0, rfl, by decide, hinX0, tyX0_ok, nmX0, wd_160, (fun h => absurd h (by decide)), (fun h => absurd h (by decide)), (fun h => absurd h (by decide))⟩
theorem flX11_203 : FL RX11 203 0 10 := ⟨RX0, TX0, 14, tyX0, rfl, by decide, hinX0, tyX0_ok, nmX0, wd_163, (fun h => absurd h (by decide)), (fun h => absurd h (by decide)), (fun h => absurd h (by decide))⟩
theorem flX11_206 : FL RX11 206 0 11 := ⟨RX0, TX0, 14, tyX0, rfl, by decide, hinX0, tyX0_ok, nmX0, wd_166, (fun h => absurd h (by decide)), (fun h => absurd h (by decide)), (fun h => absurd h (by decide))⟩
theorem flX11_209 : FL RX11 209 0 12 := ⟨RX0, TX0, 14, tyX0, rfl, by decide, hinX0, tyX0_ok, nmX0, wd_168, (fun h => absurd h (by decide)), (fun h => absurd h (by decide)), (fun h => absurd h (by decide))⟩
theorem flX11_223 : FL RX11 223 7 1 := ⟨RX7, TX7, 4, tyX7, rfl, by decide, hinX7, tyX7_ok, nmX7, wd_270, (fun h => absurd h (by decide)), (fun h => absurd h (by decide)), (fun h => absurd h (by decide))⟩
theorem flX11_226 : FL RX11 226 7 2 := ⟨RX7, TX7, 4, tyX7, rfl, by decide, hinX7, tyX7_ok, nmX7, wd_273, (fun h => absurd h (by decide)), (fun h => absurd h (by decide)), (fun h => absurd h (by decide))⟩
theorem flX11_229 : FL RX11 229 7 3 := ⟨RX7, TX7, 4, tyX7, rfl, by decide, hinX7, tyX7_ok, nmX7, wd_276, (fun h => absurd h (by decide)), (fun h => absurd h (by decide)), (fun h => absurd h (by decide))⟩
theorem flX11_236 : FL RX11 236 4 0 := ⟨RX4, TX4, 4, tyX4, rfl, by decide, hinX4, tyX4_ok, nmX4, wd_287, (fun h => absurd h (by decide)), (fun h => absurd h (by decide)), (fun h => absurd h (by decide))⟩
theorem flX11_240 : FL RX11 240 6 0 := ⟨RX6, TX6, 2, tyX6, rfl, by decide, hinX6, tyX6_ok, nmX6, wd_252, (fun h => absurd h (by decide)), (fun h => absurd h (by decide)), (fun h => absurd h (by decide))⟩
theorem flX11_249 : FL RX11 249 4 1 := ⟨RX4, TX4, 4, tyX4, rfl, by decide, hinX4, tyX4_ok, nmX4, wd_289, (fun h => absurd h (by decide)), (fun h => absurd h (by decide)), (fun h => absurd h (by decide))⟩
theorem flX11_252 : FL RX11 252 8 0 := ⟨RX8, TX8, 7, tyX8, rfl, by decide, hinX8, tyX8_ok, nmX8, wd_311, (fun h => absurd h (by decide)), (fun h => absurd h (by decide)), (fun h => absurd h (by decide))⟩
theorem flX11_310 : FL RX11 310 3 0 := ⟨RX3, TX3, 7, tyX3, rfl, by decide, hinX3, tyX3_ok, nmX3, wd_358, (fun _ => ⟨rfl, rfl⟩), (fun h => absurd h (by decide)), (fun h => absurd h (by decide))⟩
theorem flX11_313 : FL RX11 313 3 1 := ⟨RX3, TX3, 7, tyX3, rfl, by decide, hinX3, tyX3_ok, nmX3, wd_360, (fun _ => ⟨rfl, rfl⟩), (fun h => absurd h (by decide)), (fun h => absurd h (by decide))⟩
theorem flX11_316 : FL RX11 316 3 2 := ⟨RX3, TX3, 7, tyX3, rfl, by decide, hinX3, tyX3_ok, nmX3, wd_362, (fun _ => ⟨rfl, rfl⟩), (fun h => absurd h (by decide)), (fun h => absurd h (by decide))⟩
theorem flX11_329 : FL RX11 329 1 0 := ⟨RX1, TX1, 5, tyX1, rfl, by decide, hinX1, tyX1_ok, nmX1, wd_389, (fun _ => ⟨rfl, rfl⟩), (fun h => absurd h (by decide)), (fun h => absurd h (by decide))⟩
theorem flX11_332 : FL RX11 332 1 1 := ⟨RX1, TX1, 5, tyX1, rfl, by decide, hinX1, tyX1_ok, nmX1, wd_391, (fun h => absurd h (by decide)), (fun h => absurd h (by decide)), (fun h => absurd h (by decide))⟩
theorem flX11_351 : FL RX11 351 0 13 := ⟨RX0, TX0, 14, tyX0, rfl, by decide, hinX0, tyX0_ok, nmX0, wd_170, (fun h => absurd h (by decide)), (fun _ => ⟨rfl, rfl⟩), (fun h => absurd h (by decide))⟩
theorem flX11_354 : FL RX11 354 0 1 := ⟨RX0, TX0, 14, tyX0, rfl, by decide, hinX0, tyX0_ok, nmX0, wd_135, (fun h => absurd h (by decide)), (fun h => absurd h (by decide)), (fun h => absurd h (by decide))⟩
theorem flX0_9 : FL RX0 9 0 0 := ⟨RX0, TX0, 14, tyX0, rfl, by decide, hinX0, tyX0_ok, nmX0, wd_128, (fun _ => ⟨rfl, rfl⟩), (fun h => absurd h (by decide)), (fun h => absurd h (by decide))⟩
theorem flX0_15 : FL RX0 15 0 1 := ⟨RX0, TX0, 14, tyX0, rfl, by decide, hinX0, tyX0_ok, nmX0, wd_132, (fun h => absurd h (by decide)), (fun h => absurd h (by decide)), (fun h => absurd h (by decide))⟩
theorem flX0_19 : FL RX0 19 0 2 := ⟨RX0, TX0, 14, tyX0, rfl, by decide, hinX0, tyX0_ok, nmX0, wd_136, (fun h => absurd h (by decide)), (fun h => absurd h (by decide)), (fun h => absurd h (by decide))⟩
theorem flX0_23 : FL RX0 23 0 3 := ⟨RX0, TX0, 14, tyX0, rfl, by decide, hinX0, tyX0_ok, nmX0, wd_139, (fun h => absurd h (by decide)), (fun h => absurd h (by decide)), (fun h => absurd h (by decide))⟩
theorem flX0_26 : FL RX0 26 0 4 := ⟨RX0, TX0, 14, tyX0, rfl, by decide, hinX0, tyX0_ok, nmX0, wd_141, (fun h => absurd h (by decide)), (fun h => absurd h (by decide)), (fun h => absurd h (by decide))⟩
theorem flX0_29 : FL RX0 29 0 5 := ⟨RX0, TX0, 14, tyX0, rfl, by decide, hinX0, tyX0_ok, nmX0, wd_145, (fun h => absurd h (by decide)), (fun h => absurd h (by decide)), (fun h => absurd h (by decide))⟩
theorem flX0_32 : FL RX0 32 0 6 := ⟨RX0, TX0, 14, tyX0, rfl, by decide, hinX0, tyX0_ok, nmX0, wd_149, (fun h => absurd h (by decide)), (fun h => absurd h (by decide)), (fun h => absurd h (by decide))⟩
theorem flX0_35 : FL RX0 35 0 7 := ⟨RX0, TX0, 14, tyX0, rfl, by decide, hinX0, tyX0_ok, nmX0, wd_152, (fun _ => ⟨rfl, rfl⟩), (fun h => absurd h (by decide)), (fun h => absurd h (by decide))⟩
theorem flX0_38 : FL RX0 38 0 8 := ⟨RX0, TX0, 14, tyX0, rfl, by decide, hinX0, tyX0_ok, nmX0, wd_156, (fun h => absurd h (by decide)), (fun h => absurd h (by decide)), (fun h => absurd h (by decide))⟩
theorem flX0_41 : FL RX0 41 0 9 := ⟨RX0, TX0, 14, tyX0, rfl, by decide, hinX0, tyX0_ok, nmX0, wd_159, (fun h => absurd h (by decide)), (fun h => absurd h (by decide)), (fun h => absurd h (by decide))⟩
theorem flX0_44 : FL RX0 44 0 10 := ⟨RX0, TX0, 14, tyX0, rfl, by decide, hinX0, tyX0_ok, nmX0, wd_161, (fun h => absurd h (by decide)), (fun h => absurd h (by decide)), (fun h => absurd h (by decide))⟩
theorem flX0_47 : FL RX0 47 0 11 := ⟨RX0, TX0, 14, tyX0, rfl, by decide, hinX0, tyX0_ok, nmX0, wd_164, (fun h => absurd h (by decide)), (fun h => absurd h (by decide)), (fun h => absurd h (by decide))⟩
theorem flX0_50 : FL RX0 50 0 12 := ⟨RX0, TX0, 14, tyX0, rfl, by decide, hinX0, tyX0_ok, nmX0, wd_167, (fun h => absurd h (by decide)), (fun h => absurd h (by decide)), (fun h => absurd h (by decide))⟩
theorem flX0_54 : FL RX0 54 0 13 := ⟨RX0, TX0, 14, tyX0, rfl, by decide, hinX0, tyX0_ok, nmX0, wd_169, (fun h => absurd h (by decide)), (fun _ => ⟨rfl, rfl⟩), (fun h => absurd h (by decide))⟩
theorem flX1_9 : FL RX1 9 1 0 := ⟨RX1, TX1, 5, tyX1, rfl, by decide, hinX1, tyX1_ok, nmX1, wd_388, (fun _ => ⟨rfl, rfl⟩), (fun h => absurd h (by decide)), (fun h => absurd h (by decide))⟩
theorem flX1_15 : FL RX1 15 1 1 := ⟨RX1, TX1, 5, tyX1, rfl, by decide, hinX1, tyX1_ok, nmX1, wd_390, (fun h => absurd h (by decide)), (fun h => absurd h (by decide)), (fun h => absurd h (by decide))⟩
theorem flX1_19 : FL RX1 19 1 2 := ⟨RX1, TX1, 5, tyX1, rfl, by decide, hinX1, tyX1_ok, nmX1, wd_392, (fun h => absurd h (by decide)), (fun h => absurd h (by decide)), (fun h => absurd h (by decide))⟩
theorem flX1_22 : FL RX1 22 1 3 := ⟨RX1, TX1, 5, tyX1, rfl, by decide, hinX1, tyX1_ok, nmX1, wd_393, (fun h => absurd h (by decide)), (fun h => absurd h (by decide)), (fun h => absurd h (by decide))⟩
theorem flX1_25 : FL RX1 25 1 4 := ⟨RX1, TX1, 5, tyX1, rfl, by decide, hinX1, tyX1_ok, nmX1, wd_394, (fun h => absurd h (by decide)), (fun h => absurd h (by decide)), (fun h => absurd h (by decide))⟩
theorem flX2_9 : FL RX2 9 2 0 := ⟨RX2, TX2, 2, tyX2, rfl, by decide, hinX2, tyX2_ok, nmX2, wd_344, (fun h => absurd h (by decide)), (fun h => absurd h (by decide)), (fun h => absurd h (by decide))⟩
theorem flX2_15 : FL RX2 15 2 1 := ⟨RX2, TX2, 2, tyX2, rfl, by decide, hinX2, tyX2_ok, nmX2, wd_345, (fun h => absurd h (by decide)), (fun h => absurd h (by decide)), (fun h => absurd h (by decide))⟩
theorem flX2_18 : FL RX2 18 0 7 := ⟨RX0, TX0, 14, tyX0, rfl, by decide, hinX0, tyX0_ok, nmX0, wd_153, (fun _ => ⟨rfl, rfl⟩), (fun h => absurd h (by decide)), (fun h => absurd h (by decide))⟩
theorem flX2_24 : FL RX2 24 0 10 := ⟨RX0, TX0, 14, tyX0, rfl, by decide, hinX0, tyX0_ok, nmX0, wd_162, (fun h => absurd h (by decide)), (fun h => absurd h (by decide)), (fun h => absurd h (by decide))⟩
theorem flX2_28 : FL RX2 28 0 11 := ⟨RX0, TX0, 14, tyX0, rfl, by decide, hinX0, tyX0_ok, nmX0, wd_165, (fun h => absurd h (by decide)), (fun h => absurd h (by decide)), (fun h => absurd h (by decide))⟩
theorem flX2_31 : FL RX2 31 0 8 := ⟨RX0, TX0, 14, tyX0, rfl, by decide, hinX0, tyX0_ok, nmX0, wd_157, (fun h => absurd h (by decide)), (fun h => absurd h (by decide)), (fun h => absurd h (by decide))⟩
theorem flX3_9 : FL RX3 9 3 0 := ⟨RX3, TX3, 7, tyX3, rfl, by decide, hinX3, tyX3_ok, nmX3, wd_357, (fun _ => ⟨rfl, rfl⟩), (fun h => absurd h (by decide)), (fun h => absurd h (by decide))⟩
theorem flX3_15 : FL RX3 15 3 1 := ⟨RX3, TX3, 7, tyX3, rfl, by decide, hinX3, tyX3_ok, nmX3, wd_359, (fun _ => ⟨rfl, rfl⟩), (fun h => absurd h (by decide)), (fun h => absurd h (by decide))⟩
theorem flX3_18 : FL RX3 18 3 2 := ⟨RX3, TX3, 7, tyX3, rfl, by decide, hinX3, tyX3_ok, nmX3, wd_361, (fun _ => ⟨rfl, rfl⟩), (fun h => absurd h (by decide)), (fun h => absurd h (by decide))⟩
theorem flX3_21 : FL RX3 21 3 3 := ⟨RX3, TX3, 7, tyX3, rfl, by decide, hinX3, tyX3_ok, nmX3, wd_363, (fun _ => ⟨rfl, rfl⟩), (fun h => absurd h (by decide)), (fun h => absurd h (by decide))⟩
theorem flX3_24 : FL RX3 24 3 4 := ⟨RX3, TX3, 7, tyX3, rfl, by decide, hinX3, tyX3_ok, nmX3, wd_364, (fun h => absurd h (by decide)), (fun h => absurd h (by decide)), (fun h => absurd h (by decide))⟩
theorem flX3_28 : FL RX3 28 3 5 := ⟨RX3, TX3, 7, tyX3, rfl, by decide, hinX3, tyX3_ok, nmX3, wd_365, (fun h => absurd h (by decide)), (fun h => absurd h (by decide)), (fun h => absurd h (by decide))⟩
theorem flX3_31 : FL RX3 31 3 6 := ⟨RX3, TX3, 7, tyX3, rfl, by decide, hinX3, tyX3_ok, nmX3, wd_366, (fun h => absurd h (by decide)), (fun h => absurd h (by decide)), (fun h => absurd h (by decide))⟩
theorem flX3_40 : FL RX3 40 0 0 := ⟨RX0, TX0, 14, tyX0, rfl, by decide, hinX0, tyX0_ok, nmX0, wd_129, (fun _ => ⟨rfl, rfl⟩), (fun h => absurd h (by decide)), (fun h => absurd h (by decide))⟩
theorem flX4_12 : FL RX4 12 4 0 := ⟨RX4, TX4, 4, tyX4, rfl, by decide, hinX4, tyX4_ok, nmX4, wd_286, (fun h => absurd h (by decide)), (fun h => absurd h (by decide)), (fun h => absurd h (by decide))⟩
theorem flX4_18 : FL RX4 18 4 1 := ⟨RX4, TX4, 4, tyX4, rfl, by decide, hinX4, tyX4_ok, nmX4, wd_288, (fun h => absurd h (by decide)), (fun h => absurd h (by decide)), (fun h => absurd h (by decide))⟩
theorem flX4_21 : FL RX4 21 4 2 := ⟨RX4, TX4, 4, tyX4, rfl, by decide, hinX4, tyX4_ok, nmX4, wd_290, (fun _ => ⟨rfl, rfl⟩), (fun h => absurd h (by decide)), (fun h => absurd h (by decide))⟩
theorem flX4_28 : FL RX4 28 4 3 := ⟨RX4, TX4, 4, tyX4, rfl, by decide, hinX4, tyX4_ok, nmX4, wd_291, (fun h => absurd h (by decide)), (fun h => absurd h (by decide)), (fun h => absurd h (by decide))⟩
theorem flX4_32 : FL RX4 32 0 1 := ⟨RX0, TX0, 14, tyX0, rfl, by decide, hinX0, tyX0_ok, nmX0, wd_133, (fun h => absurd h (by decide)), (fun h => absurd h (by decide)), (fun h => absurd h (by decide))⟩
theorem flX4_38 : FL RX4 38 0 0 := ⟨RX0, TX0, 14, tyX0, rfl, by decide, hinX0, tyX0_ok, nmX0, wd_130, (fun _ => ⟨rfl, rfl⟩), (fun h => absurd h (by decide)), (fun h => absurd h (by decide))⟩
theorem flX4_45 : FL RX4 45 0 3 := ⟨RX0, TX0, 14, tyX0, rfl, by decide, hinX0, tyX0_ok, nmX0, wd_140, (fun h => absurd h (by decide)), (fun h => absurd h (by decide)), (fun h => absurd h (by decide))⟩
theorem flX4_48 : FL RX4 48 0 2 := ⟨RX0, TX0, 14, tyX0, rfl, by decide, hinX0, tyX0_ok, nmX0, wd_137, (fun h => absurd h (by decide)), (fun h => absurd h (by decide)), (fun h => absurd h (by decide))⟩
theorem flX4_52 : FL RX4 52 8 2 := ⟨RX8, TX8, 7, tyX8, rfl, by decide, hinX8, tyX8_ok, nmX8, wd_315, (fun _ => ⟨rfl, rfl⟩), (fun h => absurd h (by decide)), (fun h => absurd h (by decide))⟩
theorem flX4_57 : FL RX4 57 0 4 := ⟨RX0, TX0, 14, tyX0, rfl, by decide, hinX0, tyX0_ok, nmX0, wd_142, (fun h => absurd h (by decide)), (fun h => absurd h (by decide)), (fun h => absurd h (by decide))⟩
theorem flX4_79 : FL RX4 79 6 0 := ⟨RX6, TX6, 2, tyX6, rfl, by decide, hinX6, tyX6_ok, nmX6, wd_251, (fun h => absurd h (by decide)), (fun h => absurd h (by decide)), (fun h => absurd h (by decide))⟩
theorem flX4_104 : FL RX4 104 0 5 := ⟨RX0, TX0, 14, tyX0, rfl, by decide, hinX0, tyX0_ok, nmX0, wd_146, (fun h => absurd h (by decide)), (fun h => absurd h (by decide)), (fun h => absurd h (by decide))⟩
theorem flX4_121 : FL RX4 121 7 0 := ⟨RX7, TX7, 4, tyX7, rfl, by decide, hinX7, tyX7_ok, nmX7, wd_266, (fun _ => ⟨rfl, rfl⟩), (fun h => absurd h (by decide)), (fun h => absurd h (by decide))⟩
theorem flX4_124 : FL RX4 124 7 1 := ⟨RX7, TX7, 4, tyX7, rfl, by decide, hinX7, tyX7_ok, nmX7, wd_269, (fun h => absurd h (by decide)), (fun h => absurd h (by decide)), (fun h => absurd h (by decide))⟩
theorem flX4_127 : FL RX4 127 7 2 := ⟨RX7, TX7, 4, tyX7, rfl, by decide, hinX7, tyX7_ok, nmX7, wd_272, (fun h => absurd h (by decide)), (fun h => absurd h (by decide)), (fun h => absurd h (by decide))⟩
theorem flX4_130 : FL RX4 130 7 3 := ⟨RX7, TX7, 4, tyX7, rfl, by decide, hinX7, tyX7_ok, nmX7, wd_275, (fun h => absurd h (by decide)), (fun h => absurd h (by decide)), (fun h => absurd h (by decide))⟩
theorem flX5_9 : FL RX5 9 5 0 := ⟨RX5, TX5, 9, tyX5, rfl, by decide, hinX5, tyX5_ok, nmX5, wd_204, (fun _ => ⟨rfl, rfl⟩), (fun h => absurd h (by decide)), (fun h => absurd h (by decide))⟩
theorem flX5_15 : FL RX5 15 5 1 := ⟨RX5, TX5, 9, tyX5, rfl, by decide, hinX5, tyX5_ok, nmX5, wd_206, (fun _ => ⟨rfl, rfl⟩), (fun h => absurd h (by decide)), (fun h => absurd h (by decide))⟩
theorem flX5_18 : FL RX5 18 5 2 := ⟨RX5, TX5, 9, tyX5, rfl, by decide, hinX5, tyX5_ok, nmX5, wd_208, (fun _ => ⟨rfl, rfl⟩), (fun h => absurd h (by decide)), (fun h => absurd h (by decide))⟩
theorem flX5_21 : FL RX5 21 5 3 := ⟨RX5, TX5, 9, tyX5, rfl, by decide, hinX5, tyX5_ok, nmX5, wd_210, (fun h => absurd h (by decide)), (fun h => absurd h (by decide)), (fun h => absurd h (by decide))⟩
theorem flX5_25 : FL RX5 25 5 4 := ⟨RX5, TX5, 9, tyX5, rfl, by decide, hinX5, tyX5_ok, nmX5, wd_211, (fun _ => ⟨rfl, rfl⟩), (fun h => absurd h (by decide)), (fun h => absurd h (by decide))⟩
theorem flX5_31 : FL RX5 31 5 5 := ⟨RX5, TX5, 9, tyX5, rfl, by decide, hinX5, tyX5_ok, nmX5, wd_212, (fun h => absurd h (by decide)), (fun h => absurd h (by decide)), (fun _ => ⟨⟨_, rfl⟩, rfl⟩)⟩
theorem flX5_35 : FL RX5 35 5 6 := ⟨RX5, TX5, 9, tyX5, rfl, by decide, hinX5, tyX5_ok, nmX5, wd_213, (fun _ => ⟨rfl, rfl⟩), (fun h => absurd h (by decide)), (fun h => absurd h (by decide))⟩
theorem flX5_38 : FL RX5 38 5 7 := ⟨RX5, TX5, 9, tyX5, rfl, by decide, hinX5, tyX5_ok, nmX5, wd_214, (fun _ => ⟨rfl, rfl⟩), (fun h => absurd h (by decide)), (fun h => absurd h (by decide))⟩
theorem flX5_41 : FL RX5 41 5 8 := ⟨RX5, TX5, 9, tyX5, rfl, by decide, hinX5, tyX5_ok, nmX5, wd_215, (fun _ => ⟨rfl, rfl⟩), (fun h => absurd h (by decide)), (fun h => absurd h (by decide))⟩
theorem flX5_104 : FL RX5 104 0 7 := ⟨RX0, TX0, 14, tyX0, rfl, by decide, hinX0, tyX0_ok, nmX0, wd_155, (fun _ => ⟨rfl, rfl⟩), (fun h => absurd h (by decide)), (fun h => absurd h (by decide))⟩
theorem flX5_130 : FL RX5 130 0 4 := ⟨RX0, TX0, 14, tyX0, rfl, by decide, hinX0, tyX0_ok, nmX0, wd_144, (fun h => absurd h (by decide)), (fun h => absurd h (by decide)), (fun h => absurd h (by decide))⟩
theorem flX5_136 : FL RX5 136 0 5 := ⟨RX0, TX0, 14, tyX0, rfl, by decide, hinX0, tyX0_ok, nmX0, wd_148, (fun h => absurd h (by decide)), (fun h => absurd h (by decide)), (fun h => absurd h (by decide))⟩
theorem flX5_142 : FL RX5 142 0 6 := ⟨RX0, TX0, 14, tyX0, rfl, by decide, hinX0, tyX0_ok, nmX0, wd_151, (fun h => absurd h (by decide)), (fun h => absurd h (by decide)), (fun h => absurd h (by decide))⟩
theorem flX5_145 : FL RX5 145 0 1 := ⟨RX0, TX0, 14, tyX0, rfl, by decide, hinX0, tyX0_ok, nmX0, wd_134, (fun h => absurd h (by decide)), (fun h => absurd h (by decide)), (fun h => absurd h (by decide))⟩
theorem flX6_9 : FL RX6 9 6 0 := ⟨RX6, TX6, 2, tyX6, rfl, by decide, hinX6, tyX6_ok, nmX6, wd_250, (fun h => absurd h (by decide)), (fun h => absurd h (by decide)), (fun h => absurd h (by decide))⟩
theorem flX6_15 : FL RX6 15 6 1 := ⟨RX6, TX6, 2, tyX6, rfl, by decide, hinX6, tyX6_ok, nmX6, wd_253, (fun h => absurd h (by decide)), (fun h => absurd h (by decide)), (fun h => absurd h (by decide))⟩
theorem flX7_9 : FL RX7 9 7 0 := ⟨RX7, TX7, 4, tyX7, rfl, by decide, hinX7, tyX7_ok, nmX7, wd_265, (fun _ => ⟨rfl, rfl⟩), (fun h => absurd h (by decide)), (fun h => absurd h (by decide))⟩
theorem flX7_15 : FL RX7 15 7 1 := ⟨RX7, TX7, 4, tyX7, rfl, by decide, hinX7, tyX7_ok, nmX7, wd_268, (fun h => absurd h (by decide)), (fun h => absurd h (by decide)), (fun h => absurd h (by decide))⟩
theorem flX7_19 : FL RX7 19 7 2 := ⟨RX7, TX7, 4, tyX7, rfl, by decide, hinX7, tyX7_ok, nmX7, wd_271, (fun h => absurd h (by decide)), (fun h => absurd h (by decide)), (fun h => absurd h (by decide))⟩
theorem flX7_22 : FL RX7 22 7 3 := ⟨RX7, TX7, 4, tyX7, rfl, by decide, hinX7, tyX7_ok, nmX7, wd_274, (fun h => absurd h (by decide)), (fun h => absurd h (by decide)), (fun h => absurd h (by decide))⟩
theorem flX8_7 : FL RX8 7 8 1 := ⟨RX8, TX8, 7, tyX8, rfl, by decide, hinX8, tyX8_ok, nmX8, wd_312, (fun _ => ⟨rfl, rfl⟩), (fun h => absurd h (by decide)), (fun h => absurd h (by decide))⟩
theorem flX8_13 : FL RX8 13 8 2 := ⟨RX8, TX8, 7, tyX8, rfl, by decide, hinX8, tyX8_ok, nmX8, wd_314, (fun _ => ⟨rfl, rfl⟩), (fun h => absurd h (by decide)), (fun h => absurd h (by decide))⟩
theorem flX8_16 : FL RX8 16 8 3 := ⟨RX8, TX8, 7, tyX8, rfl, by decide, hinX8, tyX8_ok, nmX8, wd_317, (fun _ => ⟨rfl, rfl⟩), (fun h => absurd h (by decide)), (fun h => absurd h (by decide))⟩
theorem flX8_19 : FL RX8 19 8 4 := ⟨RX8, TX8, 7, tyX8, rfl, by decide, hinX8, tyX8_ok, nmX8, wd_318, (fun _ => ⟨rfl, rfl⟩), (fun h => absurd h (by decide)), (fun h => absurd h (by decide))⟩
theorem flX8_22 : FL RX8 22 8 5 := ⟨RX8, TX8, 7, tyX8, rfl, by decide, hinX8, tyX8_ok, nmX8, wd_319, (fun h => absurd h (by decide)), (fun h => absurd h (by decide)), (fun h => absurd h (by decide))⟩
theorem flX8_26 : FL RX8 26 8 6 := ⟨RX8, TX8, 7, tyX8, rfl, by decide, hinX8, tyX8_ok, nmX8, wd_320, (fun _ => ⟨rfl, rfl⟩), (fun h => absurd h (by decide)), (fun h => absurd h (by decide))⟩
theorem flX8_35 : FL RX8 35 8 0 := ⟨RX8, TX8, 7, tyX8, rfl, by decide, hinX8, tyX8_ok, nmX8, wd_310, (fun h => absurd h (by decide)), (fun h => absurd h (by decide)), (fun h => absurd h (by decide))⟩
theorem flX9_11 : FL RX9 11 9 0 := ⟨RX9, TX9, 4, tyX9, rfl, by decide, hinX9, tyX9_ok, nmX9, wd_412, (fun _ => ⟨rfl, rfl⟩), (fun h => absurd h (by decide)), (fun h => absurd h (by decide))⟩
theorem flX9_15 : FL RX9 15 9 1 := ⟨RX9, TX9, 4, tyX9, rfl, by decide, hinX9, tyX9_ok, nmX9, wd_414, (fun h => absurd h (by decide)), (fun h => absurd h (by decide)), (fun h => absurd h (by decide))⟩
theorem flX9_19 : FL RX9 19 9 2 := ⟨RX9, TX9, 4, tyX9, rfl, by decide, hinX9, tyX9_ok, nmX9, wd_415, (fun h => absurd h (by decide)), (fun h => absurd h (by decide)), (fun h => absurd h (by decide))⟩
theorem flX9_22 : FL RX9 22 9 3 := ⟨RX9, TX9, 4, tyX9, rfl, by decide, hinX9, tyX9_ok, nmX9, wd_416, (fun h => absurd h (by decide)), (fun h => absurd h (by decide)), (fun h => absurd h (by decide))⟩
theorem flX12_7 : FL RX12 7 11 1 := ⟨RX12, TX12, 67, tyX12, rfl, by decide, hinX12, tyX12_ok, nmX12, wd_1177, (fun h => absurd h (by decide)), (fun h => absurd h (by decide)), (fun h => absurd h (by decide))⟩
theorem flX12_13 : FL RX12 13 11 2 := ⟨RX12, TX12, 67, tyX12, rfl, by decide, hinX12, tyX12_ok, nmX12, wd_1178, (fun h => absurd h (by decide)), (fun h => absurd h (by decide)), (fun h => absurd h (by decide))⟩
theorem flX12_16 : FL RX12 16 11 3 := ⟨RX12, TX12, 67, tyX12, rfl, by decide, hinX12, tyX12_ok, nmX12, wd_1179, (fun h => absurd h (by decide)), (fun h => absurd h (by decide)), (fun h => absurd h (by decide))⟩
theorem flX12_19 : FL RX12 19 11 4 := ⟨RX12, TX12, 67, tyX12, rfl, by decide, hinX12, tyX12_ok, nmX12, wd_1180, (fun h => absurd h (by decide)), (fun h => absurd h (by decide)), (fun h => absurd h (by decide))⟩
theorem flX12_22 : FL RX12 22 11 5 := ⟨RX12, TX12, 67, tyX12, rfl, by decide, hinX12, tyX12_ok, nmX12, wd_1181, (fun h => absurd h (by decide)), (fun h => absurd h (by decide)), (fun h => absurd h (by decide))⟩
theorem flX12_25 : FL RX12 25 11 6 := ⟨RX12, TX12, 67, tyX12, rfl, by decide, hinX12, tyX12_ok, nmX12, wd_1182, (fun h => absurd h (by decide)), (fun h => absurd h (by decide)), (fun h => absurd h (by decide))⟩
theorem flX12_28 : FL RX12 28 11 8 := ⟨RX12, TX12, 67, tyX12, rfl, by decide, hinX12, tyX12_ok, nmX12, wd_1184, (fun h => absurd h (by decide)), (fun h => absurd h (by decide)), (fun h => absurd h (by decide))⟩
theorem flX12_31 : FL RX12 31 11 9 := ⟨RX12, TX12, 67, tyX12, rfl, by decide, hinX12, tyX12_ok, nmX12, wd_1185, (fun h => absurd h (by decide)), (fun h => absurd h (by decide)), (fun h => absurd h (by decide))⟩
theorem flX12_34 : FL RX12 34 11 10 := ⟨RX12, TX12, 67, tyX12, rfl, by decide, hinX12, tyX12_ok, nmX12, wd_1186, (fun h => absurd h (by decide)), (fun h => absurd h (by decide)), (fun h => absurd h (by decide))⟩
theorem flX12_37 : FL RX12 37 11 11 := ⟨RX12, TX12, 67, tyX12, rfl, by decide, hinX12, tyX12_ok, nmX12, wd_1187, (fun h => absurd h (by decide)), (fun h => absurd h (by decide)), (fun h => absurd h (by decide))⟩
theorem flX12_40 : FL RX12 40 11 12 := ⟨RX12, TX12, 67, tyX12, rfl, by decide, hinX12, tyX12_ok, nmX12, wd_1188, (fun h => absurd h (by decide)), (fun h => absurd h (by decide)), (fun h => absurd h (by decide))⟩
theorem flX12_44 : FL RX12 44 11 13 := ⟨RX12, TX12, 67, tyX12, rfl, by decide, hinX12, tyX12_ok, nmX12, wd_1189, (fun h => absurd h (by decide)), (fun h => absurd h (by decide)), (fun h => absurd h (by decide))⟩
theorem flX12_47 : FL RX12 47 11 19 := ⟨RX12, TX12, 67, tyX12, rfl, by decide, hinX12, tyX12_ok, nmX12, wd_1195, (fun _ => ⟨rfl, rfl⟩), (fun h => absurd h (by decide)), (fun h => absurd h (by decide))⟩
theorem flX12_51 : FL RX12 51 11 23 := ⟨RX12, TX12, 67, tyX12, rfl, by decide, hinX12, tyX12_ok, nmX12, wd_1199, (fun h => absurd h (by decide)), (fun h => absurd h (by decide)), (fun h => absurd h (by decide))⟩
theorem flX12_54 : FL RX12 54 11 28 := ⟨RX12, TX12, 67, tyX12, rfl, by decide, hinX12, tyX12_ok, nmX12, wd_1204, (fun _ => ⟨rfl, rfl⟩), (fun h => absurd h (by decide)), (fun h => absurd h (by decide))⟩
theorem flX12_57 : FL RX12 57 11 29 := ⟨RX12, TX12, 67, tyX12, rfl, by decide, hinX12, tyX12_ok, nmX12, wd_1205, (fun h => absurd h (by decide)), (fun h => absurd h (by decide)), (fun h => absurd h (by decide))⟩
theorem flX12_60 : FL RX12 60 11 30 := ⟨RX12, TX12, 67, tyX12, rfl, by decide, hinX12, tyX12_ok, nmX12, wd_1206, (fun h => absurd h (by decide)), (fun h => absurd h (by decide)), (fun h => absurd h (by decide))⟩
theorem flX12_63 : FL RX12 63 11 34 := ⟨RX12, TX12, 67, tyX12, rfl, by decide, hinX12, tyX12_ok, nmX12, wd_1210, (fun h => absurd h (by decide)), (fun h => absurd h (by decide)), (fun h => absurd h (by decide))⟩
theorem flX12_66 : FL RX12 66 11 37 := ⟨RX12, TX12, 67, tyX12, rfl, by decide, hinX12, tyX12_ok, nmX12, wd_1213, (fun h => absurd h (by decide)), (fun h => absurd h (by decide)), (fun h => absurd h (by decide))⟩
theorem flX12_69 : FL RX12 69 11 41 := ⟨RX12, TX12, 67, tyX12, rfl, by decide, hinX12, tyX12_ok, nmX12, wd_1217, (fun h => absurd h (by decide)), (fun h => absurd h (by decide)), (fun h => absurd h (by decide))⟩
theorem flX12_72 : FL RX12 72 11 42 := ⟨RX12, TX12, 67, tyX12, rfl, by decide, hinX12, tyX12_ok, nmX12, wd_1218, (fun h => absurd h (by decide)), (fun h => absurd h (by decide)), (fun h => absurd h (by decide))⟩
theorem flX12_75 : FL RX12 75 11 43 := ⟨RX12, TX12, 67, tyX12, rfl, by decide, hinX12, tyX12_ok, nmX12, wd_1219, (fun h => absurd h (by decide)), (fun h => absurd h (by decide)), (fun h => absurd h (by decide))⟩
theorem flX12_78 : FL RX12 78 11 44 := ⟨RX12, TX12, 67, tyX12, rfl, by decide, hinX12, tyX12_ok, nmX12, wd_1220, (fun h => absurd h (by decide)), (fun h => absurd h (by decide)), (fun h => absurd h (by decide))⟩
theorem flX12_81 : FL RX12 81 11 45 := ⟨RX12, TX12, 67, tyX12, rfl, by decide, hinX12, tyX12_ok, nmX12, wd_1221, (fun h => absurd h (by decide)), (fun h => absurd h (by decide)), (fun h => absurd h (by decide))⟩
theorem flX12_84 : FL RX12 84 11 46 := ⟨RX12, TX12, 67, tyX12, rfl, by decide, hinX12, tyX12_ok, nmX12, wd_1222, (fun h => absurd h (by decide)), (fun h => absurd h (by decide)), (fun h => absurd h (by decide))⟩
theorem flX12_87 : FL RX12 87 11 48 := ⟨RX12, TX12, 67, tyX12, rfl, by decide, hinX12, tyX12_ok, nmX12, wd_1224, (fun h => absurd h (by decide)), (fun h => absurd h (by decide)), (fun h => absurd h (by decide))⟩
theorem flX12_90 : FL RX12 90 11 49 := ⟨RX12, TX12, 67, tyX12, rfl, by decide, hinX12, tyX12_ok, nmX12, wd_1225, (fun h => absurd h (by decide)), (fun h => absurd h (by decide)), (fun h => absurd h (by decide))⟩
theorem flX12_93 : FL RX12 93 11 50 := ⟨RX12, TX12, 67, tyX12, rfl, by decide, hinX12, tyX12_ok, nmX12, wd_1226, (fun h => absurd h (by decide)), (fun h => absurd h (by decide)), (fun h => absurd h (by decide))⟩
theorem flX12_96 : FL RX12 96 11 51 := ⟨RX12, TX12, 67, tyX12, rfl, by decide, hinX12, tyX12_ok, nmX12, wd_1227, (fun h => absurd h (by decide)), (fun h => absurd h (by decide)), (fun h => absurd h (by decide))⟩
theorem flX12_99 : FL RX12 99 11 52 := ⟨RX12, TX12, 67, tyX12, rfl, by decide, hinX12, tyX12_ok, nmX12, wd_1228, (fun h => absurd h (by decide)), (fun h => absurd h (by decide)), (fun h => absurd h (by decide))⟩
theorem flX12_102 : FL RX12 102 11 53 := ⟨RX12, TX12, 67, tyX12, rfl, by decide, hinX12, tyX12_ok, nmX12, wd_1229, (fun h => absurd h (by decide)), (fun h => absurd h (by decide)), (fun h => absurd h (by decide))⟩
theorem flX12_105 : FL RX12 105 11 54 := ⟨RX12, TX12, 67, tyX12, rfl, by decide, hinX12, tyX12_ok, nmX12, wd_1230, (fun h => absurd h (by decide)), (fun h => absurd h (by decide)), (fun h => absurd h (by decide))⟩
theorem flX12_108 : FL RX12 108 11 55 := ⟨RX12, TX12, 67, tyX12, rfl, by decide, hinX12, tyX12_ok, nmX12, wd_1231, (fun h => absurd h (by decide)), (fun h => absurd h (by decide)), (fun h => absurd h (by decide))⟩
theorem flX12_111 : FL RX12 111 11 56 := ⟨RX12, TX12, 67, tyX12, rfl, by decide, hinX12, tyX12_ok, nmX12, wd_1232, (fun h => absurd h (by decide)), (fun h => absurd h (by decide)), (fun h => absurd h (by decide))⟩
theorem flX12_114 : FL RX12 114 11 57 := ⟨RX12, TX12, 67, tyX12, rfl, by decide, hinX12, tyX12_ok, nmX12, wd_1233, (fun h => absurd h (by decide)), (fun h => absurd h (by decide)), (fun h => absurd h (by decide))⟩
theorem flX12_117 : FL RX12 117 11 58 := ⟨RX12, TX12, 67, tyX12, rfl, by decide, hinX12, tyX12_ok, nmX12, wd_1234, (fun h => absurd h (by decide)), (fun h => absurd h (by decide)), (fun h => absurd h (by decide))⟩
theorem flX12_120 : FL RX12 120 11 59 := ⟨RX12, TX12, 67, tyX12, rfl, by decide, hinX12, tyX12_ok, nmX12, wd_1235, (fun h => absurd h (by decide)), (fun h => absurd h (by decide)), (fun h => absurd h (by decide))⟩
theorem flX12_123 : FL RX12 123 11 60 := ⟨RX12, TX12, 67, tyX12, rfl, by decide, hinX12, tyX12_ok, nmX12, wd_1236, (fun h => absurd h (by decide)), (fun h => absurd h (by decide)), (fun h => absurd h (by decide))⟩
theorem flX12_126 : FL RX12 126 11 61 := ⟨RX12, TX12, 67, tyX12, rfl, by decide, hinX12, tyX12_ok, nmX12, wd_1237, (fun h => absurd h (by decide)), (fun h => absurd h (by decide)), (fun h => absurd h (by decide))⟩
theorem flX12_129 : FL RX12 129 11 62 := ⟨RX12, TX12, 67, tyX12, rfl, by decide, hinX12, tyX12_ok, nmX12, wd_1238, (fun h => absurd h (by decide)), (fun h => absurd h (by decide)), (fun h => absurd h (by decide))⟩
theorem flX12_132 : FL RX12 132 11 63 := ⟨RX12, TX12, 67, tyX12, rfl, by decide, hinX12, tyX12_ok, nmX12, wd_1239, (fun h => absurd h (by decide)), (fun h => absurd h (by decide)), (fun h => absurd h (by decide))⟩
theorem flX12_135 : FL RX12 135 11 64 := ⟨RX12, TX12, 67, tyX12, rfl, by decide, hinX12, tyX12_ok, nmX12, wd_1240, (fun h => absurd h (by decide)), (fun h => absurd h (by decide)), (fun h => absurd h (by decide))⟩
theorem flX12_138 : FL RX12 138 11 65 := ⟨RX12, TX12, 67, tyX12, rfl, by decide, hinX12, tyX12_ok, nmX12, wd_1241, (fun h => absurd h (by decide)), (fun h => absurd h (by decide)), (fun h => absurd h (by decide))⟩
theorem flX12_141 : FL RX12 141 11 66 := ⟨RX12, TX12, 67, tyX12, rfl, by decide, hinX12, tyX12_ok, nmX12, wd_1242, (fun h => absurd h (by decide)), (fun h => absurd h (by decide)), (fun h => absurd h (by decide))⟩
theorem flX12_150 : FL RX12 150 11 14 := ⟨RX12, TX12, 67, tyX12, rfl, by decide, hinX12, tyX12_ok, nmX12, wd_1190, (fun _ => ⟨rfl, rfl⟩), (fun h => absurd h (by decide)), (fun h => absurd h (by decide))⟩
theorem flX12_155 : FL RX12 155 11 15 := ⟨RX12, TX12, 67, tyX12, rfl, by decide, hinX12, tyX12_ok, nmX12, wd_1191, (fun _ => ⟨rfl, rfl⟩), (fun h => absurd h (by decide)), (fun h => absurd h (by decide))⟩
theorem flX12_158 : FL RX12 158 11 18 := ⟨RX12, TX12, 67, tyX12, rfl, by decide, hinX12, tyX12_ok, nmX12, wd_1194, (fun _ => ⟨rfl, rfl⟩), (fun h => absurd h (by decide)), (fun h => absurd h (by decide))⟩
theorem flX12_169 : FL RX12 169 11 16 := ⟨RX12, TX12, 67, tyX12, rfl, by decide, hinX12, tyX12_ok, nmX12, wd_1192, (fun _ => ⟨rfl, rfl⟩), (fun h => absurd h (by decide)), (fun h => absurd h (by decide))⟩
theorem flX12_176 : FL RX12 176 11 17 := ⟨RX12, TX12, 67, tyX12, rfl, by decide, hinX12, tyX12_ok, nmX12, wd_1193, (fun _ => ⟨rfl, rfl⟩), (fun h => absurd h (by decide)), (fun h => absurd h (by decide))⟩
theorem flX12_192 : FL RX12 192 11 0 := ⟨RX12, TX12, 67, tyX12, rfl, by decide, hinX12, tyX12_ok, nmX12, wd_1176, (fun _ => ⟨rfl, rfl⟩), (fun h => absurd h (by decide)), (fun h => absurd h (by decide))⟩
theorem flX12_210 : FL RX12 210 11 7 := ⟨RX12, TX12, 67, tyX12, rfl, by decide, hinX12, tyX12_ok, nmX12, wd_1183, (fun _ => ⟨rfl, rfl⟩), (fun h => absurd h (by decide)), (fun h => absurd h (by decide))⟩
theorem flX12_231 : FL RX12 231 11 20 := ⟨RX12, TX12, 67, tyX12, rfl, by decide, hinX12, tyX12_ok, nmX12, wd_1196, (fun _ => ⟨rfl, rfl⟩), (fun h => absurd h (by decide)), (fun h => absurd h (by decide))⟩
theorem flX12_234 : FL RX12 234 11 21 := ⟨RX12, TX12, 67, tyX12, rfl, by decide, hinX12, tyX12_ok, nmX12, wd_1197, (fun _ => ⟨rfl, rfl⟩), (fun h => absurd h (by decide)), (fun h => absurd h (by decide))⟩
theorem flX12_241 : FL RX12 241 11 22 := ⟨RX12, TX12, 67, tyX12, rfl, by decide, hinX12, tyX12_ok, nmX12, wd_1198, (fun _ => ⟨rfl, rfl⟩), (fun h => absurd h (by decide)), (fun h => absurd h (by decide))⟩
theorem flX12_281 : FL RX12 281 11 47 := ⟨RX12, TX12, 67, tyX12, rfl, by decide, hinX12, tyX12_ok, nmX12, wd_1223, (fun _ => ⟨rfl, rfl⟩), (fun h => absurd h (by decide)), (fun h => absurd h (by decide))⟩
theorem flX12_317 : FL RX12 317 11 24 := ⟨RX12, TX12, 67, tyX12, rfl, by decide, hinX12, tyX12_ok, nmX12, wd_1200, (fun _ => ⟨rfl, rfl⟩), (fun h => absurd h (by decide)), (fun h => absurd h (by decide))⟩
theorem flX12_320 : FL RX12 320 11 25 := ⟨RX12, TX12, 67, tyX12, rfl, by decide, hinX12, tyX12_ok, nmX12, wd_1201, (fun _ => ⟨rfl, rfl⟩), (fun h => absurd h (by decide)), (fun h => absurd h (by decide))⟩
theorem flX12_323 : FL RX12 323 11 26 := ⟨RX12, TX12, 67, tyX12, rfl, by decide, hinX12, tyX12_ok, nmX12, wd_1202, (fun h => absurd h (by decide)), (fun _ => ⟨rfl, rfl⟩), (fun h => absurd h (by decide))⟩
theorem flX12_332 : FL RX12 332 11 27 := ⟨RX12, TX12, 67, tyX12, rfl, by decide, hinX12, tyX12_ok, nmX12, wd_1203, (fun _ => ⟨rfl, rfl⟩), (fun h => absurd h (by decide)), (fun h => absurd h (by decide))⟩
theorem flX12_355 : FL RX12 355 11 31 := ⟨RX12, TX12, 67, tyX12, rfl, by decide, hinX12, tyX12_ok, nmX12, wd_1207, (fun _ => ⟨rfl, rfl⟩), (fun h => absurd h (by decide)), (fun h => absurd h (by decide))⟩
theorem flX12_358 : FL RX12 358 11 32 := ⟨RX12, TX12, 67, tyX12, rfl, by decide, hinX12, tyX12_ok, nmX12, wd_1208, (fun _ => ⟨rfl, rfl⟩), (fun h => absurd h (by decide)), (fun h => absurd h (by decide))⟩
theorem flX12_361 : FL RX12 361 11 35 := ⟨RX12, TX12, 67, tyX12, rfl, by decide, hinX12, tyX12_ok, nmX12, wd_1211, (fun _ => ⟨rfl, rfl⟩), (fun h => absurd h (by decide)), (fun h => absurd h (by decide))⟩
theorem flX12_367 : FL RX12 367 11 33 := ⟨RX12, TX12, 67, tyX12, rfl, by decide, hinX12, tyX12_ok, nmX12, wd_1209, (fun h => absurd h (by decide)), (fun _ => ⟨rfl, rfl⟩), (fun h => absurd h (by decide))⟩
theorem flX12_415 : FL RX12 415 11 36 := ⟨RX12, TX12, 67, tyX12, rfl, by decide, hinX12, tyX12_ok, nmX12, wd_1212, (fun _ => ⟨rfl, rfl⟩), (fun h => absurd h (by decide)), (fun h => absurd h (by decide))⟩
theorem flX12_449 : FL RX12 449 11 38 := ⟨RX12, TX12, 67, tyX12, rfl, by decide, hinX12, tyX12_ok, nmX12, wd_1214, (fun _ => ⟨rfl, rfl⟩), (fun h => absurd h (by decide)), (fun h => absurd h (by decide))⟩
theorem flX12_452 : FL RX12 452 11 39 := ⟨RX12, TX12, 67, tyX12, rfl, by decide, hinX12, tyX12_ok, nmX12, wd_1215, (fun _ => ⟨rfl, rfl⟩), (fun h => absurd h (by decide)), (fun h => absurd h (by decide))⟩
theorem flX12_455 : FL RX12 455 11 40 := ⟨RX12, TX12, 67, tyX12, rfl, by decide, hinX12, tyX12_ok, nmX12, wd_1216, (fun _ => ⟨rfl, rfl⟩), (fun h => absurd h (by decide)), (fun h => absurd h (by decide))⟩
abbrev mX0_init : Md := (yX0_init, cX0_init, 1, none, 1)
theorem caX0_init : CallA mX0_init 0 := ⟨wd_126, wd_89, (by decide +kernel), by decide⟩
abbrev mX0_clear : Md := (yX0_clear, cX0_clear, 1, none, 0)
theorem caX0_clear : CallA mX0_clear 0 := ⟨wd_494, wd_89, (by decide +kernel), by decide⟩
abbrev mX0_copyFrom : Md := (yX0_copyFrom, cX0_copyFrom, 2, none, 1)
theorem caX0_copyFrom : CallA mX0_copyFrom 1 := ⟨wd_1164, wd_89, (by decide +kernel), by decide⟩
abbrev mX0_hasHead : Md := (yX0_hasHead, cX0_hasHead, 2, (some .boolean), 0)
theorem caX0_hasHead : CallA mX0_hasHead 1 := ⟨wd_628, wd_89, (by decide +kernel), by decide⟩
abbrev mX0_hasEntry : Md := (yX0_hasEntry, cX0_hasEntry, 3, (some .boolean), 1)
theorem caX0_hasEntry : CallA mX0_hasEntry 2 := ⟨wd_829, wd_89, (by decide +kernel), by decide⟩
abbrev mX0_hasMark : Md := (yX0_hasMark, cX0_hasMark, 2, (some .boolean), 0)
theorem caX0_hasMark : CallA mX0_hasMark 1 := ⟨wd_840, wd_89, (by decide +kernel), by decide⟩
abbrev mX0_wordOf : Md := (yX0_wordOf, cX0_wordOf, 3, (some .long), 0)
theorem caX0_wordOf : CallA mX0_wordOf 2 := ⟨wd_793, wd_89, (by decide +kernel), by decide⟩
abbrev mX0_findHead : Md := (yX0_findHead, cX0_findHead, 4, (some .int), 0)
theorem caX0_findHead : CallA mX0_findHead 1 := ⟨wd_612, wd_89, (by decide +kernel), by decide⟩
abbrev mX0_findSub : Md := (yX0_findSub, cX0_findSub, 5, (some .int), 1)
theorem caX0_findSub : CallA mX0_findSub 2 := ⟨wd_624, wd_89, (by decide +kernel), by decide⟩
abbrev mX0_putHead : Md := (yX0_putHead, cX0_putHead, 3, (some .int), 0)
theorem caX0_putHead : CallA mX0_putHead 1 := ⟨wd_616, wd_89, (by decide +kernel), by decide⟩
abbrev mX0_putSub : Md := (yX0_putSub, cX0_putSub, 4, (some .int), 0)
theorem caX0_putSub : CallA mX0_putSub 2 := ⟨wd_632, wd_89, (by decide +kernel), by decide⟩
abbrev mX0_putMark : Md := (yX0_putMark, cX0_putMark, 6, (some .int), 0)
theorem caX0_putMark : CallA mX0_putMark 5 := ⟨wd_652, wd_89, (by decide +kernel), by decide⟩
abbrev mX0_removeMark : Md := (yX0_removeMark, cX0_removeMark, 3, none, 1)
theorem caX0_removeMark : CallA mX0_removeMark 1 := ⟨wd_856, wd_89, (by decide +kernel), by decide⟩
abbrev mX0_moveMark : Md := (yX0_moveMark, cX0_moveMark, 3, none, 0)
theorem caX0_moveMark : CallA mX0_moveMark 2 := ⟨wd_860, wd_89, (by decide +kernel), by decide⟩
abbrev mX0_marksOf : Md := (yX0_marksOf, cX0_marksOf, 4, (some .int), 0)
theorem caX0_marksOf : CallA mX0_marksOf 1 := ⟨wd_717, wd_89, (by decide +kernel), by decide⟩
abbrev mX0_filledHeads : Md := (yX0_filledHeads, cX0_filledHeads, 3, (some .int), 0)
theorem caX0_filledHeads : CallA mX0_filledHeads 0 := ⟨wd_808, wd_89, (by decide +kernel), by decide⟩
abbrev mX0_markedSubs : Md := (yX0_markedSubs, cX0_markedSubs, 4, (some .int), 0)
theorem caX0_markedSubs : CallA mX0_markedSubs 1 := ⟨wd_777, wd_89, (by decide +kernel), by decide⟩
abbrev mX0_gatherRuns : Md := (yX0_gatherRuns, cX0_gatherRuns, 5, none, 2)
theorem caX0_gatherRuns : CallA mX0_gatherRuns 3 := ⟨wd_745, wd_89, (by decide +kernel), by decide⟩
abbrev mX0_headsWith : Md := (yX0_headsWith, cX0_headsWith, 4, (some .int), 0)
theorem caX0_headsWith : CallA mX0_headsWith 1 := ⟨wd_910, wd_89, (by decide +kernel), by decide⟩
abbrev mX0_stepsToFilled : Md := (yX0_stepsToFilled, cX0_stepsToFilled, 5, (some .int), 1)
theorem caX0_stepsToFilled : CallA mX0_stepsToFilled 2 := ⟨wd_897, wd_89, (by decide +kernel), by decide⟩
abbrev mX0_headAfter : Md := (yX0_headAfter, cX0_headAfter, 5, (some .int), 0)
theorem caX0_headAfter : CallA mX0_headAfter 2 := ⟨wd_902, wd_89, (by decide +kernel), by decide⟩
abbrev mX0_goesRound : Md := (yX0_goesRound, cX0_goesRound, 4, (some .boolean), 0)
theorem caX0_goesRound : CallA mX0_goesRound 1 := ⟨wd_949, wd_89, (by decide +kernel), by decide⟩
abbrev mX0_oneStepOn : Md := (yX0_oneStepOn, cX0_oneStepOn, 4, (some .int), 1)
theorem caX0_oneStepOn : CallA mX0_oneStepOn 1 := ⟨wd_914, wd_89, (by decide +kernel), by decide⟩
abbrev mX0_lastPageAbove : Md := (yX0_lastPageAbove, cX0_lastPageAbove, 4, (some .int), 1)
theorem caX0_lastPageAbove : CallA mX0_lastPageAbove 1 := ⟨wd_1036, wd_89, (by decide +kernel), by decide⟩
abbrev mX0_pushPages : Md := (yX0_pushPages, cX0_pushPages, 5, (some .int), 0)
theorem caX0_pushPages : CallA mX0_pushPages 2 := ⟨wd_1041, wd_89, (by decide +kernel), by decide⟩
abbrev mX0_cutPages : Md := (yX0_cutPages, cX0_cutPages, 8, (some .int), 1)
theorem caX0_cutPages : CallA mX0_cutPages 2 := ⟨wd_1049, wd_89, (by decide +kernel), by decide⟩
abbrev mX0_subsMissing : Md := (yX0_subsMissing, cX0_subsMissing, 5, (some .int), 2)
theorem caX0_subsMissing : CallA mX0_subsMissing 2 := ⟨wd_1140, wd_89, (by decide +kernel), by decide⟩
abbrev mX0_joinMarks : Md := (yX0_joinMarks, cX0_joinMarks, 7, none, 2)
theorem caX0_joinMarks : CallA mX0_joinMarks 2 := ⟨wd_1146, wd_89, (by decide +kernel), by decide⟩
abbrev mX0_giveMarks : Md := (yX0_giveMarks, cX0_giveMarks, 6, none, 0)
theorem caX0_giveMarks : CallA mX0_giveMarks 4 := ⟨wd_1150, wd_89, (by decide +kernel), by decide⟩
abbrev mX0_joinRest : Md := (yX0_joinRest, cX0_joinRest, 3, none, 1)
theorem caX0_joinRest : CallA mX0_joinRest 2 := ⟨wd_1155, wd_89, (by decide +kernel), by decide⟩
abbrev mX1_init : Md := (yX1_init, cX1_init, 1, none, 1)
theorem caX1_init : CallA mX1_init 0 := ⟨wd_386, wd_97, (by decide +kernel), by decide⟩
abbrev mX1_clear : Md := (yX1_clear, cX1_clear, 3, none, 0)
theorem caX1_clear : CallA mX1_clear 1 := ⟨wd_1001, wd_97, (by decide +kernel), by decide⟩
abbrev mX1_offer : Md := (yX1_offer, cX1_offer, 5, none, 0)
theorem caX1_offer : CallA mX1_offer 4 := ⟨wd_1006, wd_97, (by decide +kernel), by decide⟩
abbrev mX1_choose : Md := (yX1_choose, cX1_choose, 6, none, 3)
theorem caX1_choose : CallA mX1_choose 2 := ⟨wd_1010, wd_97, (by decide +kernel), by decide⟩
abbrev mX1_mostNeeded : Md := (yX1_mostNeeded, cX1_mostNeeded, 4, (some .int), 1)
theorem caX1_mostNeeded : CallA mX1_mostNeeded 1 := ⟨wd_1014, wd_97, (by decide +kernel), by decide⟩
abbrev mX1_leastFrom : Md := (yX1_leastFrom, cX1_leastFrom, 5, (some .int), 2)
theorem caX1_leastFrom : CallA mX1_leastFrom 2 := ⟨wd_1020, wd_97, (by decide +kernel), by decide⟩
abbrev mX1_lossBy : Md := (yX1_lossBy, cX1_lossBy, 6, (some .int), 1)
theorem caX1_lossBy : CallA mX1_lossBy 3 := ⟨wd_1024, wd_97, (by decide +kernel), by decide⟩
abbrev mX1_follow : Md := (yX1_follow, cX1_follow, 6, none, 2)
theorem caX1_follow : CallA mX1_follow 2 := ⟨wd_1028, wd_97, (by decide +kernel), by decide⟩
abbrev mX2_init : Md := (yX2_init, cX2_init, 1, none, 1)
theorem caX2_init : CallA mX2_init 0 := ⟨wd_342, wd_95, (by decide +kernel), by decide⟩
abbrev mX2_gather : Md := (yX2_gather, cX2_gather, 5, none, 1)
theorem caX2_gather : CallA mX2_gather 1 := ⟨wd_922, wd_95, (by decide +kernel), by decide⟩
abbrev mX2_below : Md := (yX2_below, cX2_below, 1, (some .long), 0)
theorem caX2_below : CallA mX2_below 1 := ⟨wd_925, wd_95, (by decide +kernel), by decide⟩
abbrev mX2_sizeOf : Md := (yX2_sizeOf, cX2_sizeOf, 7, (some .int), 1)
theorem caX2_sizeOf : CallA mX2_sizeOf 1 := ⟨wd_930, wd_95, (by decide +kernel), by decide⟩
abbrev mX2_hasTwin : Md := (yX2_hasTwin, cX2_hasTwin, 4, (some .boolean), 0)
theorem caX2_hasTwin : CallA mX2_hasTwin 2 := ⟨wd_954, wd_95, (by decide +kernel), by decide⟩
abbrev mX3_init : Md := (yX3_init, cX3_init, 1, none, 1)
theorem caX3_init : CallA mX3_init 0 := ⟨wd_355, wd_96, (by decide +kernel), by decide⟩
abbrev mX3_postable : Md := (yX3_postable, cX3_postable, 5, (some .int), 2)
theorem caX3_postable : CallA mX3_postable 1 := ⟨wd_962, wd_96, (by decide +kernel), by decide⟩
abbrev mX3_clear : Md := (yX3_clear, cX3_clear, 1, none, 0)
theorem caX3_clear : CallA mX3_clear 0 := ⟨wd_980, wd_96, (by decide +kernel), by decide⟩
abbrev mX3_offer : Md := (yX3_offer, cX3_offer, 4, none, 0)
theorem caX3_offer : CallA mX3_offer 3 := ⟨wd_984, wd_96, (by decide +kernel), by decide⟩
abbrev mX3_choose : Md := (yX3_choose, cX3_choose, 8, none, 1)
theorem caX3_choose : CallA mX3_choose 2 := ⟨wd_988, wd_96, (by decide +kernel), by decide⟩
abbrev mX4_init : Md := (yX4_init, cX4_init, 1, none, 2)
theorem caX4_init : CallA mX4_init 0 := ⟨wd_242, wd_90, (by decide +kernel), by decide⟩
abbrev mX4_arrange : Md := (yX4_arrange, cX4_arrange, 3, none, 3)
theorem caX4_arrange : CallA mX4_arrange 2 := ⟨wd_697, wd_90, (by decide +kernel), by decide⟩
abbrev mX4_arrangeSubs : Md := (yX4_arrangeSubs, cX4_arrangeSubs, 4, none, 3)
theorem caX4_arrangeSubs : CallA mX4_arrangeSubs 3 := ⟨wd_781, wd_90, (by decide +kernel), by decide⟩
abbrev mX4_setHead : Md := (yX4_setHead, cX4_setHead, 11, (some .int), 7)
theorem caX4_setHead : CallA mX4_setHead 5 := ⟨wd_713, wd_90, (by decide +kernel), by decide⟩
abbrev mX4_setRuns : Md := (yX4_setRuns, cX4_setRuns, 6, none, 3)
theorem caX4_setRuns : CallA mX4_setRuns 4 := ⟨wd_733, wd_90, (by decide +kernel), by decide⟩
abbrev mX4_setSee : Md := (yX4_setSee, cX4_setSee, 5, none, 6)
theorem caX4_setSee : CallA mX4_setSee 4 := ⟨wd_798, wd_90, (by decide +kernel), by decide⟩
abbrev mX4_setAlso : Md := (yX4_setAlso, cX4_setAlso, 6, none, 6)
theorem caX4_setAlso : CallA mX4_setAlso 3 := ⟨wd_803, wd_90, (by decide +kernel), by decide⟩
abbrev mX5_init : Md := (yX5_init, cX5_init, 1, none, 2)
theorem caX5_init : CallA mX5_init 0 := ⟨wd_120, wd_88, (by decide +kernel), by decide⟩
abbrev mX5_takeBytes : Md := (yX5_takeBytes, cX5_takeBytes, 5, (some .int), 0)
theorem caX5_takeBytes : CallA mX5_takeBytes 2 := ⟨wd_482, wd_88, (by decide +kernel), by decide⟩
abbrev mX5_changeBook : Md := (yX5_changeBook, cX5_changeBook, 3, (some (.object "BackPages$Book")), 0)
theorem caX5_changeBook : CallA mX5_changeBook 1 := ⟨wd_681, wd_88, (by decide +kernel), by decide⟩
abbrev mX5_begin : Md := (yX5_begin, cX5_begin, 1, none, 1)
theorem caX5_begin : CallA mX5_begin 0 := ⟨wd_490, wd_88, (by decide +kernel), by decide⟩
abbrev mX5_hasMore : Md := (yX5_hasMore, cX5_hasMore, 1, (some .boolean), 1)
theorem caX5_hasMore : CallA mX5_hasMore 0 := ⟨wd_498, wd_88, (by decide +kernel), by decide⟩
abbrev mX5_fail : Md := (yX5_fail, cX5_fail, 3, (some .int), 0)
theorem caX5_fail : CallA mX5_fail 2 := ⟨wd_577, wd_88, (by decide +kernel), by decide⟩
abbrev mX5_byteHere : Md := (yX5_byteHere, cX5_byteHere, 1, (some .int), 0)
theorem caX5_byteHere : CallA mX5_byteHere 0 := ⟨wd_597, wd_88, (by decide +kernel), by decide⟩
abbrev mX5_skipBlanks : Md := (yX5_skipBlanks, cX5_skipBlanks, 1, none, 0)
theorem caX5_skipBlanks : CallA mX5_skipBlanks 0 := ⟨wd_502, wd_88, (by decide +kernel), by decide⟩
abbrev mX5_isLetter : Md := (yX5_isLetter, cX5_isLetter, 1, (some .boolean), 0)
theorem caX5_isLetter : CallA mX5_isLetter 1 := ⟨wd_513, wd_88, (by decide +kernel), by decide⟩
abbrev mX5_isFigure : Md := (yX5_isFigure, cX5_isFigure, 1, (some .boolean), 0)
theorem caX5_isFigure : CallA mX5_isFigure 1 := ⟨wd_639, wd_88, (by decide +kernel), by decide⟩
abbrev mX5_skipWord : Md := (yX5_skipWord, cX5_skipWord, 1, none, 1)
theorem caX5_skipWord : CallA mX5_skipWord 0 := ⟨wd_510, wd_88, (by decide +kernel), by decide⟩
abbrev mX5_skipNumber : Md := (yX5_skipNumber, cX5_skipNumber, 1, none, 1)
theorem caX5_skipNumber : CallA mX5_skipNumber 0 := ⟨wd_643, wd_88, (by decide +kernel), by decide⟩
abbrev mX5_isWord : Md := (yX5_isWord, cX5_isWord, 5, (some .boolean), 5)
theorem caX5_isWord : CallA mX5_isWord 3 := ⟨wd_522, wd_88, (by decide +kernel), by decide⟩
abbrev mX5_readClause : Md := (yX5_readClause, cX5_readClause, 3, none, 8)
theorem caX5_readClause : CallA mX5_readClause 0 := ⟨wd_506, wd_88, (by decide +kernel), by decide⟩
abbrev mX5_kindOf : Md := (yX5_kindOf, cX5_kindOf, 3, (some .int), 6)
theorem caX5_kindOf : CallA mX5_kindOf 2 := ⟨wd_517, wd_88, (by decide +kernel), by decide⟩
abbrev mX5_isOneTooMany : Md := (yX5_isOneTooMany, cX5_isOneTooMany, 2, (some .boolean), 0)
theorem caX5_isOneTooMany : CallA mX5_isOneTooMany 1 := ⟨wd_581, wd_88, (by decide +kernel), by decide⟩
abbrev mX5_readEnd : Md := (yX5_readEnd, cX5_readEnd, 1, none, 1)
theorem caX5_readEnd : CallA mX5_readEnd 0 := ⟨wd_677, wd_88, (by decide +kernel), by decide⟩
abbrev mX5_readMark : Md := (yX5_readMark, cX5_readMark, 6, none, 7)
theorem caX5_readMark : CallA mX5_readMark 0 := ⟨wd_585, wd_88, (by decide +kernel), by decide⟩
abbrev mX5_readMain : Md := (yX5_readMain, cX5_readMain, 2, (some .boolean), 6)
theorem caX5_readMain : CallA mX5_readMain 0 := ⟨wd_647, wd_88, (by decide +kernel), by decide⟩
abbrev mX5_readLink : Md := (yX5_readLink, cX5_readLink, 4, none, 4)
theorem caX5_readLink : CallA mX5_readLink 1 := ⟨wd_673, wd_88, (by decide +kernel), by decide⟩
abbrev mX5_readAsked : Md := (yX5_readAsked, cX5_readAsked, 3, none, 4)
theorem caX5_readAsked : CallA mX5_readAsked 0 := ⟨wd_656, wd_88, (by decide +kernel), by decide⟩
abbrev mX5_wordPlace : Md := (yX5_wordPlace, cX5_wordPlace, 2, (some .int), 2)
theorem caX5_wordPlace : CallA mX5_wordPlace 1 := ⟨wd_663, wd_88, (by decide +kernel), by decide⟩
abbrev mX5_readHead : Md := (yX5_readHead, cX5_readHead, 5, (some .int), 3)
theorem caX5_readHead : CallA mX5_readHead 0 := ⟨wd_589, wd_88, (by decide +kernel), by decide⟩
abbrev mX5_readSub : Md := (yX5_readSub, cX5_readSub, 6, (some .int), 3)
theorem caX5_readSub : CallA mX5_readSub 1 := ⟨wd_620, wd_88, (by decide +kernel), by decide⟩
abbrev mX5_wordStart : Md := (yX5_wordStart, cX5_wordStart, 2, (some .int), 2)
theorem caX5_wordStart : CallA mX5_wordStart 0 := ⟨wd_593, wd_88, (by decide +kernel), by decide⟩
abbrev mX5_isFit : Md := (yX5_isFit, cX5_isFit, 4, (some .boolean), 0)
theorem caX5_isFit : CallA mX5_isFit 2 := ⟨wd_601, wd_88, (by decide +kernel), by decide⟩
abbrev mX5_packWord : Md := (yX5_packWord, cX5_packWord, 5, (some .long), 1)
theorem caX5_packWord : CallA mX5_packWord 1 := ⟨wd_605, wd_88, (by decide +kernel), by decide⟩
abbrev mX5_readNumber : Md := (yX5_readNumber, cX5_readNumber, 6, (some .int), 2)
theorem caX5_readNumber : CallA mX5_readNumber 2 := ⟨wd_636, wd_88, (by decide +kernel), by decide⟩
abbrev mX6_init : Md := (yX6_init, cX6_init, 1, none, 1)
theorem caX6_init : CallA mX6_init 0 := ⟨wd_248, wd_91, (by decide +kernel), by decide⟩
abbrev mX6_sort : Md := (yX6_sort, cX6_sort, 11, none, 2)
theorem caX6_sort : CallA mX6_sort 4 := ⟨wd_701, wd_91, (by decide +kernel), by decide⟩
abbrev mX7_init : Md := (yX7_init, cX7_init, 1, none, 1)
theorem caX7_init : CallA mX7_init 0 := ⟨wd_263, wd_92, (by decide +kernel), by decide⟩
abbrev mX7_clear : Md := (yX7_clear, cX7_clear, 1, none, 0)
theorem caX7_clear : CallA mX7_clear 0 := ⟨wd_749, wd_92, (by decide +kernel), by decide⟩
abbrev mX7_put : Md := (yX7_put, cX7_put, 10, none, 1)
theorem caX7_put : CallA mX7_put 3 := ⟨wd_753, wd_92, (by decide +kernel), by decide⟩
abbrev mX7_holds : Md := (yX7_holds, cX7_holds, 4, (some .boolean), 0)
theorem caX7_holds : CallA mX7_holds 2 := ⟨wd_1067, wd_92, (by decide +kernel), by decide⟩
abbrev mX8_init : Md := (yX8_init, cX8_init, 2, none, 1)
theorem caX8_init : CallA mX8_init 1 := ⟨wd_305, wd_93, (by decide +kernel), by decide⟩
abbrev mX8_clear : Md := (yX8_clear, cX8_clear, 2, none, 0)
theorem caX8_clear : CallA mX8_clear 1 := ⟨wd_709, wd_93, (by decide +kernel), by decide⟩
abbrev mX8_putByte : Md := (yX8_putByte, cX8_putByte, 2, none, 0)
theorem caX8_putByte : CallA mX8_putByte 1 := ⟨wd_729, wd_93, (by decide +kernel), by decide⟩
abbrev mX8_putText : Md := (yX8_putText, cX8_putText, 3, none, 5)
theorem caX8_putText : CallA mX8_putText 1 := ⟨wd_787, wd_93, (by decide +kernel), by decide⟩
abbrev mX8_putWord : Md := (yX8_putWord, cX8_putWord, 5, none, 2)
theorem caX8_putWord : CallA mX8_putWord 1 := ⟨wd_721, wd_93, (by decide +kernel), by decide⟩
abbrev mX8_putPage : Md := (yX8_putPage, cX8_putPage, 2, none, 1)
theorem caX8_putPage : CallA mX8_putPage 1 := ⟨wd_768, wd_93, (by decide +kernel), by decide⟩
abbrev mX8_putRun : Md := (yX8_putRun, cX8_putRun, 4, none, 2)
theorem caX8_putRun : CallA mX8_putRun 3 := ⟨wd_764, wd_93, (by decide +kernel), by decide⟩
abbrev mX8_write : Md := (yX8_write, cX8_write, 2, none, 0)
theorem caX8_write : CallA mX8_write 1 := ⟨wd_741, wd_93, (by decide +kernel), by decide⟩
abbrev mX8_placeUnit : Md := (yX8_placeUnit, cX8_placeUnit, 2, none, 1)
theorem caX8_placeUnit : CallA mX8_placeUnit 0 := ⟨wd_737, wd_93, (by decide +kernel), by decide⟩
abbrev mX8_endRow : Md := (yX8_endRow, cX8_endRow, 1, none, 2)
theorem caX8_endRow : CallA mX8_endRow 0 := ⟨wd_772, wd_93, (by decide +kernel), by decide⟩
abbrev mX9_init : Md := (yX9_init, cX9_init, 1, none, 1)
theorem caX9_init : CallA mX9_init 0 := ⟨wd_410, wd_98, (by decide +kernel), by decide⟩
abbrev mX9_lastTold : Md := (yX9_lastTold, cX9_lastTold, 1, (some .int), 0)
theorem caX9_lastTold : CallA mX9_lastTold 0 := ⟨wd_1076, wd_98, (by decide +kernel), by decide⟩
abbrev mX9_put : Md := (yX9_put, cX9_put, 3, (some .int), 0)
theorem caX9_put : CallA mX9_put 2 := ⟨wd_1080, wd_98, (by decide +kernel), by decide⟩
abbrev mX9_weigh : Md := (yX9_weigh, cX9_weigh, 4, none, 1)
theorem caX9_weigh : CallA mX9_weigh 1 := ⟨wd_1092, wd_98, (by decide +kernel), by decide⟩
abbrev mX9_ifStands : Md := (yX9_ifStands, cX9_ifStands, 5, (some .int), 0)
theorem caX9_ifStands : CallA mX9_ifStands 3 := ⟨wd_1096, wd_98, (by decide +kernel), by decide⟩
abbrev mX9_ifLeftOut : Md := (yX9_ifLeftOut, cX9_ifLeftOut, 3, (some .int), 0)
theorem caX9_ifLeftOut : CallA mX9_ifLeftOut 2 := ⟨wd_1100, wd_98, (by decide +kernel), by decide⟩
abbrev mX9_leastCost : Md := (yX9_leastCost, cX9_leastCost, 1, (some .int), 0)
theorem caX9_leastCost : CallA mX9_leastCost 0 := ⟨wd_1105, wd_98, (by decide +kernel), by decide⟩
abbrev mX9_standsAt : Md := (yX9_standsAt, cX9_standsAt, 5, (some .boolean), 1)
theorem caX9_standsAt : CallA mX9_standsAt 2 := ⟨wd_1109, wd_98, (by decide +kernel), by decide⟩
abbrev mX10_codeAt : Md := (yX10_codeAt, cX10_codeAt, 2, (some .long), 0)
theorem caX10_codeAt : CallA mX10_codeAt 2 := ⟨wd_608, wd_104, (by decide +kernel), by decide⟩
abbrev mX10_codeOf : Md := (yX10_codeOf, cX10_codeOf, 3, (some .int), 0)
theorem caX10_codeOf : CallA mX10_codeOf 2 := ⟨wd_669, wd_104, (by decide +kernel), by decide⟩
abbrev mX10_lengthOf : Md := (yX10_lengthOf, cX10_lengthOf, 3, (some .int), 1)
theorem caX10_lengthOf : CallA mX10_lengthOf 1 := ⟨wd_666, wd_104, (by decide +kernel), by decide⟩
abbrev mX10_byteOf : Md := (yX10_byteOf, cX10_byteOf, 3, (some .int), 1)
theorem caX10_byteOf : CallA mX10_byteOf 2 := ⟨wd_725, wd_104, (by decide +kernel), by decide⟩
abbrev mX10_withoutLines : Md := (yX10_withoutLines, cX10_withoutLines, 7, (some .long), 1)
theorem caX10_withoutLines : CallA mX10_withoutLines 1 := ⟨wd_704, wd_104, (by decide +kernel), by decide⟩
abbrev mX10_nearness : Md := (yX10_nearness, cX10_nearness, 8, (some .int), 3)
theorem caX10_nearness : CallA mX10_nearness 2 := ⟨wd_1120, wd_104, (by decide +kernel), by decide⟩
abbrev mX10_isPlural : Md := (yX10_isPlural, cX10_isPlural, 5, (some .boolean), 2)
theorem caX10_isPlural : CallA mX10_isPlural 2 := ⟨wd_1124, wd_104, (by decide +kernel), by decide⟩
abbrev mX10_isOneByteOff : Md := (yX10_isOneByteOff, cX10_isOneByteOff, 9, (some .boolean), 1)
theorem caX10_isOneByteOff : CallA mX10_isOneByteOff 2 := ⟨wd_1128, wd_104, (by decide +kernel), by decide⟩
abbrev mX10_behind : Md := (yX10_behind, cX10_behind, 3, (some .long), 0)
theorem caX10_behind : CallA mX10_behind 2 := ⟨wd_1131, wd_104, (by decide +kernel), by decide⟩
abbrev mX11_init : Md := (yX11_init, cX11_init, 1, none, 3)
theorem caX11_init : CallA mX11_init 0 := ⟨wd_112, wd_87, (by decide +kernel), by decide⟩
abbrev mX11_feed : Md := (yX11_feed, cX11_feed, 4, (some .int), 1)
theorem caX11_feed : CallA mX11_feed 2 := ⟨wd_478, wd_87, (by decide +kernel), by decide⟩
abbrev mX11_read : Md := (yX11_read, cX11_read, 2, (some .int), 9)
theorem caX11_read : CallA mX11_read 0 := ⟨wd_486, wd_87, (by decide +kernel), by decide⟩
abbrev mX11_fault : Md := (yX11_fault, cX11_fault, 1, (some .int), 0)
theorem caX11_fault : CallA mX11_fault 0 := ⟨wd_685, wd_87, (by decide +kernel), by decide⟩
abbrev mX11_count : Md := (yX11_count, cX11_count, 2, (some .int), 9)
theorem caX11_count : CallA mX11_count 1 := ⟨wd_689, wd_87, (by decide +kernel), by decide⟩
abbrev mX11_head : Md := (yX11_head, cX11_head, 3, (some .int), 9)
theorem caX11_head : CallA mX11_head 2 := ⟨wd_818, wd_87, (by decide +kernel), by decide⟩
abbrev mX11_name : Md := (yX11_name, cX11_name, 6, (some .int), 2)
theorem caX11_name : CallA mX11_name 3 := ⟨wd_825, wd_87, (by decide +kernel), by decide⟩
abbrev mX11_mark : Md := (yX11_mark, cX11_mark, 3, (some .int), 1)
theorem caX11_mark : CallA mX11_mark 2 := ⟨wd_836, wd_87, (by decide +kernel), by decide⟩
abbrev mX11_add : Md := (yX11_add, cX11_add, 6, (some .int), 2)
theorem caX11_add : CallA mX11_add 5 := ⟨wd_844, wd_87, (by decide +kernel), by decide⟩
abbrev mX11_drop : Md := (yX11_drop, cX11_drop, 2, (some .int), 2)
theorem caX11_drop : CallA mX11_drop 1 := ⟨wd_852, wd_87, (by decide +kernel), by decide⟩
abbrev mX11_asked : Md := (yX11_asked, cX11_asked, 4, (some .int), 1)
theorem caX11_asked : CallA mX11_asked 2 := ⟨wd_864, wd_87, (by decide +kernel), by decide⟩
abbrev mX11_run : Md := (yX11_run, cX11_run, 5, (some .int), 3)
theorem caX11_run : CallA mX11_run 4 := ⟨wd_868, wd_87, (by decide +kernel), by decide⟩
abbrev mX11_order : Md := (yX11_order, cX11_order, 3, (some .int), 0)
theorem caX11_order : CallA mX11_order 1 := ⟨wd_872, wd_87, (by decide +kernel), by decide⟩
abbrev mX11_at : Md := (yX11_at, cX11_at, 2, (some .int), 4)
theorem caX11_at : CallA mX11_at 1 := ⟨wd_876, wd_87, (by decide +kernel), by decide⟩
abbrev mX11_subAt : Md := (yX11_subAt, cX11_subAt, 3, (some .int), 4)
theorem caX11_subAt : CallA mX11_subAt 2 := ⟨wd_880, wd_87, (by decide +kernel), by decide⟩
abbrev mX11_width : Md := (yX11_width, cX11_width, 3, (some .int), 0)
theorem caX11_width : CallA mX11_width 1 := ⟨wd_885, wd_87, (by decide +kernel), by decide⟩
abbrev mX11_print : Md := (yX11_print, cX11_print, 2, (some .int), 9)
theorem caX11_print : CallA mX11_print 1 := ⟨wd_889, wd_87, (by decide +kernel), by decide⟩
abbrev mX11_printAll : Md := (yX11_printAll, cX11_printAll, 3, none, 8)
theorem caX11_printAll : CallA mX11_printAll 0 := ⟨wd_693, wd_87, (by decide +kernel), by decide⟩
abbrev mX11_look : Md := (yX11_look, cX11_look, 4, (some .int), 2)
theorem caX11_look : CallA mX11_look 2 := ⟨wd_893, wd_87, (by decide +kernel), by decide⟩
abbrev mX11_steps : Md := (yX11_steps, cX11_steps, 6, (some .int), 2)
theorem caX11_steps : CallA mX11_steps 2 := ⟨wd_906, wd_87, (by decide +kernel), by decide⟩
abbrev mX11_finds : Md := (yX11_finds, cX11_finds, 5, (some .int), 2)
theorem caX11_finds : CallA mX11_finds 2 := ⟨wd_918, wd_87, (by decide +kernel), by decide⟩
abbrev mX11_trouble : Md := (yX11_trouble, cX11_trouble, 6, (some .int), 4)
theorem caX11_trouble : CallA mX11_trouble 2 := ⟨wd_941, wd_87, (by decide +kernel), by decide⟩
abbrev mX11_hasTrouble : Md := (yX11_hasTrouble, cX11_hasTrouble, 6, (some .boolean), 3)
theorem caX11_hasTrouble : CallA mX11_hasTrouble 4 := ⟨wd_945, wd_87, (by decide +kernel), by decide⟩
abbrev mX11_posted : Md := (yX11_posted, cX11_posted, 6, (some .int), 9)
theorem caX11_posted : CallA mX11_posted 1 := ⟨wd_958, wd_87, (by decide +kernel), by decide⟩
abbrev mX11_sourceOf : Md := (yX11_sourceOf, cX11_sourceOf, 3, (some .int), 2)
theorem caX11_sourceOf : CallA mX11_sourceOf 2 := ⟨wd_968, wd_87, (by decide +kernel), by decide⟩
abbrev mX11_posting : Md := (yX11_posting, cX11_posting, 3, (some .int), 9)
theorem caX11_posting : CallA mX11_posting 2 := ⟨wd_972, wd_87, (by decide +kernel), by decide⟩
abbrev mX11_offerPosts : Md := (yX11_offerPosts, cX11_offerPosts, 6, none, 8)
theorem caX11_offerPosts : CallA mX11_offerPosts 0 := ⟨wd_976, wd_87, (by decide +kernel), by decide⟩
abbrev mX11_fit : Md := (yX11_fit, cX11_fit, 3, (some .int), 9)
theorem caX11_fit : CallA mX11_fit 2 := ⟨wd_993, wd_87, (by decide +kernel), by decide⟩
abbrev mX11_offerFits : Md := (yX11_offerFits, cX11_offerFits, 4, none, 8)
theorem caX11_offerFits : CallA mX11_offerFits 0 := ⟨wd_997, wd_87, (by decide +kernel), by decide⟩
abbrev mX11_putIn : Md := (yX11_putIn, cX11_putIn, 3, (some .int), 2)
theorem caX11_putIn : CallA mX11_putIn 2 := ⟨wd_1032, wd_87, (by decide +kernel), by decide⟩
abbrev mX11_takeOut : Md := (yX11_takeOut, cX11_takeOut, 3, (some .int), 2)
theorem caX11_takeOut : CallA mX11_takeOut 2 := ⟨wd_1045, wd_87, (by decide +kernel), by decide⟩
abbrev mX11_stale : Md := (yX11_stale, cX11_stale, 8, (some .int), 4)
theorem caX11_stale : CallA mX11_stale 1 := ⟨wd_1054, wd_87, (by decide +kernel), by decide⟩
abbrev mX11_staleRuns : Md := (yX11_staleRuns, cX11_staleRuns, 8, (some .int), 3)
theorem caX11_staleRuns : CallA mX11_staleRuns 5 := ⟨wd_1062, wd_87, (by decide +kernel), by decide⟩
abbrev mX11_saw : Md := (yX11_saw, cX11_saw, 3, (some .int), 1)
theorem caX11_saw : CallA mX11_saw 2 := ⟨wd_1072, wd_87, (by decide +kernel), by decide⟩
abbrev mX11_forget : Md := (yX11_forget, cX11_forget, 2, (some .int), 0)
theorem caX11_forget : CallA mX11_forget 0 := ⟨wd_1084, wd_87, (by decide +kernel), by decide⟩
abbrev mX11_story : Md := (yX11_story, cX11_story, 3, (some .int), 2)
theorem caX11_story : CallA mX11_story 2 := ⟨wd_1088, wd_87, (by decide +kernel), by decide⟩
abbrev mX11_near : Md := (yX11_near, cX11_near, 3, (some .int), 4)
theorem caX11_near : CallA mX11_near 2 := ⟨wd_1113, wd_87, (by decide +kernel), by decide⟩
abbrev mX11_join : Md := (yX11_join, cX11_join, 3, (some .int), 3)
theorem caX11_join : CallA mX11_join 2 := ⟨wd_1136, wd_87, (by decide +kernel), by decide⟩
abbrev mX11_keep : Md := (yX11_keep, cX11_keep, 2, (some .int), 2)
theorem caX11_keep : CallA mX11_keep 1 := ⟨wd_1160, wd_87, (by decide +kernel), by decide⟩
abbrev mX11_goBack : Md := (yX11_goBack, cX11_goBack, 2, (some .int), 2)
theorem caX11_goBack : CallA mX11_goBack 1 := ⟨wd_1169, wd_87, (by decide +kernel), by decide⟩
abbrev mX11_areTwoHeads : Md := (yX11_areTwoHeads, cX11_areTwoHeads, 3, (some .boolean), 1)
theorem caX11_areTwoHeads : CallA mX11_areTwoHeads 2 := ⟨wd_1117, wd_87, (by decide +kernel), by decide⟩
abbrev mX11_isPage : Md := (yX11_isPage, cX11_isPage, 1, (some .boolean), 0)
theorem caX11_isPage : CallA mX11_isPage 1 := ⟨wd_847, wd_87, (by decide +kernel), by decide⟩
abbrev mX11_isImage : Md := (yX11_isImage, cX11_isImage, 1, (some .boolean), 0)
theorem caX11_isImage : CallA mX11_isImage 1 := ⟨wd_1057, wd_87, (by decide +kernel), by decide⟩
abbrev mX11_isIn : Md := (yX11_isIn, cX11_isIn, 2, (some .boolean), 0)
theorem caX11_isIn : CallA mX11_isIn 2 := ⟨wd_659, wd_87, (by decide +kernel), by decide⟩
abbrev mX12_init : Md := (yX12_init, cX12_init, 1, none, 1)
theorem caX12_init : CallA mX12_init 0 := ⟨wd_1174, wd_99, (by decide +kernel), by decide⟩
abbrev mX12_in : Md := (yX12_in, cX12_in, 6, (some .boolean), 0)
theorem caX12_in : CallA mX12_in 3 := ⟨wd_1385, wd_99, (by decide +kernel), by decide⟩
abbrev mX12_one : Md := (yX12_one, cX12_one, 1, (some .int), 0)
theorem caX12_one : CallA mX12_one 1 := ⟨wd_1511, wd_99, (by decide +kernel), by decide⟩
abbrev mX12_has : Md := (yX12_has, cX12_has, 2, (some .boolean), 0)
theorem caX12_has : CallA mX12_has 2 := ⟨wd_1468, wd_99, (by decide +kernel), by decide⟩
abbrev mX12_slot : Md := (yX12_slot, cX12_slot, 2, (some .int), 0)
theorem caX12_slot : CallA mX12_slot 2 := ⟨wd_1435, wd_99, (by decide +kernel), by decide⟩
abbrev mX12_feed : Md := (yX12_feed, cX12_feed, 5, (some .int), 1)
theorem caX12_feed : CallA mX12_feed 2 := ⟨wd_1381, wd_99, (by decide +kernel), by decide⟩
abbrev mX12_here : Md := (yX12_here, cX12_here, 1, (some .int), 0)
theorem caX12_here : CallA mX12_here 0 := ⟨wd_1398, wd_99, (by decide +kernel), by decide⟩
abbrev mX12_want : Md := (yX12_want, cX12_want, 4, (some .boolean), 0)
theorem caX12_want : CallA mX12_want 3 := ⟨wd_1423, wd_99, (by decide +kernel), by decide⟩
abbrev mX12_isLetter : Md := (yX12_isLetter, cX12_isLetter, 1, (some .boolean), 1)
theorem caX12_isLetter : CallA mX12_isLetter 1 := ⟨wd_1409, wd_99, (by decide +kernel), by decide⟩
abbrev mX12_takeWord : Md := (yX12_takeWord, cX12_takeWord, 2, none, 2)
theorem caX12_takeWord : CallA mX12_takeWord 0 := ⟨wd_1406, wd_99, (by decide +kernel), by decide⟩
abbrev mX12_isWord : Md := (yX12_isWord, cX12_isWord, 9, (some .boolean), 0)
theorem caX12_isWord : CallA mX12_isWord 6 := ⟨wd_1415, wd_99, (by decide +kernel), by decide⟩
abbrev mX12_isName : Md := (yX12_isName, cX12_isName, 3, (some .boolean), 1)
theorem caX12_isName : CallA mX12_isName 0 := ⟨wd_1431, wd_99, (by decide +kernel), by decide⟩
abbrev mX12_isHere : Md := (yX12_isHere, cX12_isHere, 4, (some .boolean), 0)
theorem caX12_isHere : CallA mX12_isHere 1 := ⟨wd_1439, wd_99, (by decide +kernel), by decide⟩
abbrev mX12_nameIt : Md := (yX12_nameIt, cX12_nameIt, 3, none, 0)
theorem caX12_nameIt : CallA mX12_nameIt 1 := ⟨wd_1443, wd_99, (by decide +kernel), by decide⟩
abbrev mX12_takeHead : Md := (yX12_takeHead, cX12_takeHead, 2, (some .int), 3)
theorem caX12_takeHead : CallA mX12_takeHead 0 := ⟨wd_1427, wd_99, (by decide +kernel), by decide⟩
abbrev mX12_takeSub : Md := (yX12_takeSub, cX12_takeSub, 3, (some .int), 3)
theorem caX12_takeSub : CallA mX12_takeSub 1 := ⟨wd_1447, wd_99, (by decide +kernel), by decide⟩
abbrev mX12_takeNumber : Md := (yX12_takeNumber, cX12_takeNumber, 6, (some .int), 1)
theorem caX12_takeNumber : CallA mX12_takeNumber 2 := ⟨wd_1451, wd_99, (by decide +kernel), by decide⟩
abbrev mX12_takeMark : Md := (yX12_takeMark, cX12_takeMark, 7, none, 4)
theorem caX12_takeMark : CallA mX12_takeMark 1 := ⟨wd_1419, wd_99, (by decide +kernel), by decide⟩
abbrev mX12_lay : Md := (yX12_lay, cX12_lay, 6, none, 0)
theorem caX12_lay : CallA mX12_lay 5 := ⟨wd_1457, wd_99, (by decide +kernel), by decide⟩
abbrev mX12_takeSee : Md := (yX12_takeSee, cX12_takeSee, 4, none, 4)
theorem caX12_takeSee : CallA mX12_takeSee 1 := ⟨wd_1461, wd_99, (by decide +kernel), by decide⟩
abbrev mX12_takeAlso : Md := (yX12_takeAlso, cX12_takeAlso, 4, none, 4)
theorem caX12_takeAlso : CallA mX12_takeAlso 1 := ⟨wd_1465, wd_99, (by decide +kernel), by decide⟩
abbrev mX12_takeAsked : Md := (yX12_takeAsked, cX12_takeAsked, 2, none, 4)
theorem caX12_takeAsked : CallA mX12_takeAsked 0 := ⟨wd_1472, wd_99, (by decide +kernel), by decide⟩
abbrev mX12_takeClause : Md := (yX12_takeClause, cX12_takeClause, 2, none, 5)
theorem caX12_takeClause : CallA mX12_takeClause 0 := ⟨wd_1402, wd_99, (by decide +kernel), by decide⟩
abbrev mX12_read : Md := (yX12_read, cX12_read, 1, (some .int), 6)
theorem caX12_read : CallA mX12_read 0 := ⟨wd_1390, wd_99, (by decide +kernel), by decide⟩
abbrev mX12_fault : Md := (yX12_fault, cX12_fault, 1, (some .int), 0)
theorem caX12_fault : CallA mX12_fault 0 := ⟨wd_1480, wd_99, (by decide +kernel), by decide⟩
abbrev mX12_noHead : Md := (yX12_noHead, cX12_noHead, 2, (some .boolean), 1)
theorem caX12_noHead : CallA mX12_noHead 1 := ⟨wd_1615, wd_99, (by decide +kernel), by decide⟩
abbrev mX12_noSub : Md := (yX12_noSub, cX12_noSub, 3, (some .boolean), 1)
theorem caX12_noSub : CallA mX12_noSub 2 := ⟨wd_1627, wd_99, (by decide +kernel), by decide⟩
abbrev mX12_isOf : Md := (yX12_isOf, cX12_isOf, 4, (some .boolean), 0)
theorem caX12_isOf : CallA mX12_isOf 3 := ⟨wd_1527, wd_99, (by decide +kernel), by decide⟩
abbrev mX12_marksOf : Md := (yX12_marksOf, cX12_marksOf, 5, (some .int), 1)
theorem caX12_marksOf : CallA mX12_marksOf 2 := ⟨wd_1523, wd_99, (by decide +kernel), by decide⟩
abbrev mX12_isFilled : Md := (yX12_isFilled, cX12_isFilled, 2, (some .boolean), 2)
theorem caX12_isFilled : CallA mX12_isFilled 1 := ⟨wd_1519, wd_99, (by decide +kernel), by decide⟩
abbrev mX12_fullSubs : Md := (yX12_fullSubs, cX12_fullSubs, 4, (some .int), 2)
theorem caX12_fullSubs : CallA mX12_fullSubs 1 := ⟨wd_1717, wd_99, (by decide +kernel), by decide⟩
abbrev mX12_filled : Md := (yX12_filled, cX12_filled, 3, (some .int), 3)
theorem caX12_filled : CallA mX12_filled 0 := ⟨wd_1607, wd_99, (by decide +kernel), by decide⟩
abbrev mX12_count : Md := (yX12_count, cX12_count, 2, (some .int), 9)
theorem caX12_count : CallA mX12_count 1 := ⟨wd_1484, wd_99, (by decide +kernel), by decide⟩
abbrev mX12_head : Md := (yX12_head, cX12_head, 3, (some .int), 8)
theorem caX12_head : CallA mX12_head 2 := ⟨wd_1611, wd_99, (by decide +kernel), by decide⟩
abbrev mX12_name : Md := (yX12_name, cX12_name, 5, (some .int), 2)
theorem caX12_name : CallA mX12_name 3 := ⟨wd_1623, wd_99, (by decide +kernel), by decide⟩
abbrev mX12_mark : Md := (yX12_mark, cX12_mark, 3, (some .int), 1)
theorem caX12_mark : CallA mX12_mark 2 := ⟨wd_1632, wd_99, (by decide +kernel), by decide⟩
abbrev mX12_isPage : Md := (yX12_isPage, cX12_isPage, 1, (some .boolean), 1)
theorem caX12_isPage : CallA mX12_isPage 1 := ⟨wd_1639, wd_99, (by decide +kernel), by decide⟩
abbrev mX12_add : Md := (yX12_add, cX12_add, 6, (some .int), 2)
theorem caX12_add : CallA mX12_add 5 := ⟨wd_1636, wd_99, (by decide +kernel), by decide⟩
abbrev mX12_takeAway : Md := (yX12_takeAway, cX12_takeAway, 3, none, 0)
theorem caX12_takeAway : CallA mX12_takeAway 1 := ⟨wd_1648, wd_99, (by decide +kernel), by decide⟩
abbrev mX12_drop : Md := (yX12_drop, cX12_drop, 2, (some .int), 1)
theorem caX12_drop : CallA mX12_drop 1 := ⟨wd_1644, wd_99, (by decide +kernel), by decide⟩
abbrev mX12_asked : Md := (yX12_asked, cX12_asked, 4, (some .int), 2)
theorem caX12_asked : CallA mX12_asked 2 := ⟨wd_1652, wd_99, (by decide +kernel), by decide⟩
abbrev mX12_tick : Md := (yX12_tick, cX12_tick, 5, none, 1)
theorem caX12_tick : CallA mX12_tick 2 := ⟨wd_1575, wd_99, (by decide +kernel), by decide⟩
abbrev mX12_nextRun : Md := (yX12_nextRun, cX12_nextRun, 2, (some .boolean), 0)
theorem caX12_nextRun : CallA mX12_nextRun 1 := ⟨wd_1583, wd_99, (by decide +kernel), by decide⟩
abbrev mX12_runsTicked : Md := (yX12_runsTicked, cX12_runsTicked, 3, (some .int), 1)
theorem caX12_runsTicked : CallA mX12_runsTicked 0 := ⟨wd_1619, wd_99, (by decide +kernel), by decide⟩
abbrev mX12_run : Md := (yX12_run, cX12_run, 7, (some .int), 2)
theorem caX12_run : CallA mX12_run 4 := ⟨wd_1656, wd_99, (by decide +kernel), by decide⟩
abbrev mX12_signAt : Md := (yX12_signAt, cX12_signAt, 7, (some .int), 1)
theorem caX12_signAt : CallA mX12_signAt 2 := ⟨wd_1508, wd_99, (by decide +kernel), by decide⟩
abbrev mX12_isLess : Md := (yX12_isLess, cX12_isLess, 6, (some .boolean), 2)
theorem caX12_isLess : CallA mX12_isLess 2 := ⟨wd_1504, wd_99, (by decide +kernel), by decide⟩
abbrev mX12_placeOf : Md := (yX12_placeOf, cX12_placeOf, 8, (some .int), 3)
theorem caX12_placeOf : CallA mX12_placeOf 4 := ⟨wd_1500, wd_99, (by decide +kernel), by decide⟩
abbrev mX12_findOrder : Md := (yX12_findOrder, cX12_findOrder, 2, none, 4)
theorem caX12_findOrder : CallA mX12_findOrder 0 := ⟨wd_1496, wd_99, (by decide +kernel), by decide⟩
abbrev mX12_subOf : Md := (yX12_subOf, cX12_subOf, 4, (some .int), 4)
theorem caX12_subOf : CallA mX12_subOf 2 := ⟨wd_1595, wd_99, (by decide +kernel), by decide⟩
abbrev mX12_order : Md := (yX12_order, cX12_order, 3, (some .int), 1)
theorem caX12_order : CallA mX12_order 1 := ⟨wd_1661, wd_99, (by decide +kernel), by decide⟩
abbrev mX12_at : Md := (yX12_at, cX12_at, 2, (some .int), 5)
theorem caX12_at : CallA mX12_at 1 := ⟨wd_1665, wd_99, (by decide +kernel), by decide⟩
abbrev mX12_subAt : Md := (yX12_subAt, cX12_subAt, 3, (some .int), 5)
theorem caX12_subAt : CallA mX12_subAt 2 := ⟨wd_1669, wd_99, (by decide +kernel), by decide⟩
abbrev mX12_width : Md := (yX12_width, cX12_width, 3, (some .int), 1)
theorem caX12_width : CallA mX12_width 1 := ⟨wd_1673, wd_99, (by decide +kernel), by decide⟩
abbrev mX12_put : Md := (yX12_put, cX12_put, 2, none, 0)
theorem caX12_put : CallA mX12_put 1 := ⟨wd_1563, wd_99, (by decide +kernel), by decide⟩
abbrev mX12_endLine : Md := (yX12_endLine, cX12_endLine, 1, none, 0)
theorem caX12_endLine : CallA mX12_endLine 0 := ⟨wd_1567, wd_99, (by decide +kernel), by decide⟩
abbrev mX12_beginUnit : Md := (yX12_beginUnit, cX12_beginUnit, 3, none, 1)
theorem caX12_beginUnit : CallA mX12_beginUnit 1 := ⟨wd_1543, wd_99, (by decide +kernel), by decide⟩
abbrev mX12_sign : Md := (yX12_sign, cX12_sign, 2, none, 0)
theorem caX12_sign : CallA mX12_sign 1 := ⟨wd_1547, wd_99, (by decide +kernel), by decide⟩
abbrev mX12_signWord : Md := (yX12_signWord, cX12_signWord, 3, none, 1)
theorem caX12_signWord : CallA mX12_signWord 1 := ⟨wd_1551, wd_99, (by decide +kernel), by decide⟩
abbrev mX12_signSee : Md := (yX12_signSee, cX12_signSee, 1, none, 1)
theorem caX12_signSee : CallA mX12_signSee 0 := ⟨wd_1555, wd_99, (by decide +kernel), by decide⟩
abbrev mX12_signNumber : Md := (yX12_signNumber, cX12_signNumber, 2, none, 1)
theorem caX12_signNumber : CallA mX12_signNumber 1 := ⟨wd_1587, wd_99, (by decide +kernel), by decide⟩
abbrev mX12_beginRow : Md := (yX12_beginRow, cX12_beginRow, 1, none, 0)
theorem caX12_beginRow : CallA mX12_beginRow 0 := ⟨wd_1539, wd_99, (by decide +kernel), by decide⟩
abbrev mX12_putUnit : Md := (yX12_putUnit, cX12_putUnit, 2, none, 1)
theorem caX12_putUnit : CallA mX12_putUnit 0 := ⟨wd_1559, wd_99, (by decide +kernel), by decide⟩
abbrev mX12_putRuns : Md := (yX12_putRuns, cX12_putRuns, 2, none, 2)
theorem caX12_putRuns : CallA mX12_putRuns 0 := ⟨wd_1579, wd_99, (by decide +kernel), by decide⟩
abbrev mX12_printSubs : Md := (yX12_printSubs, cX12_printSubs, 4, none, 5)
theorem caX12_printSubs : CallA mX12_printSubs 1 := ⟨wd_1591, wd_99, (by decide +kernel), by decide⟩
abbrev mX12_printSee : Md := (yX12_printSee, cX12_printSee, 2, none, 2)
theorem caX12_printSee : CallA mX12_printSee 1 := ⟨wd_1535, wd_99, (by decide +kernel), by decide⟩
abbrev mX12_printAlso : Md := (yX12_printAlso, cX12_printAlso, 4, none, 2)
theorem caX12_printAlso : CallA mX12_printAlso 1 := ⟨wd_1599, wd_99, (by decide +kernel), by decide⟩
abbrev mX12_isPrinted : Md := (yX12_isPrinted, cX12_isPrinted, 2, (some .boolean), 3)
theorem caX12_isPrinted : CallA mX12_isPrinted 1 := ⟨wd_1515, wd_99, (by decide +kernel), by decide⟩
abbrev mX12_printHead : Md := (yX12_printHead, cX12_printHead, 5, none, 6)
theorem caX12_printHead : CallA mX12_printHead 2 := ⟨wd_1531, wd_99, (by decide +kernel), by decide⟩
abbrev mX12_linesOf : Md := (yX12_linesOf, cX12_linesOf, 5, (some .int), 7)
theorem caX12_linesOf : CallA mX12_linesOf 2 := ⟨wd_1492, wd_99, (by decide +kernel), by decide⟩
abbrev mX12_linesOfAll : Md := (yX12_linesOfAll, cX12_linesOfAll, 4, (some .int), 8)
theorem caX12_linesOfAll : CallA mX12_linesOfAll 1 := ⟨wd_1488, wd_99, (by decide +kernel), by decide⟩
abbrev mX12_bytesOfAll : Md := (yX12_bytesOfAll, cX12_bytesOfAll, 3, (some .int), 7)
theorem caX12_bytesOfAll : CallA mX12_bytesOfAll 0 := ⟨wd_1603, wd_99, (by decide +kernel), by decide⟩
abbrev mX12_print : Md := (yX12_print, cX12_print, 2, (some .int), 8)
theorem caX12_print : CallA mX12_print 1 := ⟨wd_1679, wd_99, (by decide +kernel), by decide⟩
abbrev mX12_foundFrom : Md := (yX12_foundFrom, cX12_foundFrom, 3, (some .int), 3)
theorem caX12_foundFrom : CallA mX12_foundFrom 1 := ⟨wd_1571, wd_99, (by decide +kernel), by decide⟩
abbrev mX12_look : Md := (yX12_look, cX12_look, 4, (some .int), 4)
theorem caX12_look : CallA mX12_look 2 := ⟨wd_1683, wd_99, (by decide +kernel), by decide⟩
abbrev mX12_stepOn : Md := (yX12_stepOn, cX12_stepOn, 4, (some .int), 1)
theorem caX12_stepOn : CallA mX12_stepOn 1 := ⟨wd_1695, wd_99, (by decide +kernel), by decide⟩
abbrev mX12_tickAll : Md := (yX12_tickAll, cX12_tickAll, 5, (some .int), 1)
theorem caX12_tickAll : CallA mX12_tickAll 1 := ⟨wd_1691, wd_99, (by decide +kernel), by decide⟩
abbrev mX12_steps : Md := (yX12_steps, cX12_steps, 6, (some .int), 2)
theorem caX12_steps : CallA mX12_steps 2 := ⟨wd_1687, wd_99, (by decide +kernel), by decide⟩
abbrev mX12_finds : Md := (yX12_finds, cX12_finds, 5, (some .int), 2)
theorem caX12_finds : CallA mX12_finds 2 := ⟨wd_1699, wd_99, (by decide +kernel), by decide⟩
abbrev mX12_goesRound : Md := (yX12_goesRound, cX12_goesRound, 4, (some .boolean), 0)
theorem caX12_goesRound : CallA mX12_goesRound 1 := ⟨wd_1713, wd_99, (by decide +kernel), by decide⟩
abbrev mX12_hasTwin : Md := (yX12_hasTwin, cX12_hasTwin, 7, (some .boolean), 2)
theorem caX12_hasTwin : CallA mX12_hasTwin 1 := ⟨wd_1725, wd_99, (by decide +kernel), by decide⟩
abbrev mX12_alsoEmpty : Md := (yX12_alsoEmpty, cX12_alsoEmpty, 4, (some .boolean), 3)
theorem caX12_alsoEmpty : CallA mX12_alsoEmpty 1 := ⟨wd_1721, wd_99, (by decide +kernel), by decide⟩
abbrev mX12_isTrouble : Md := (yX12_isTrouble, cX12_isTrouble, 4, (some .boolean), 4)
theorem caX12_isTrouble : CallA mX12_isTrouble 3 := ⟨wd_1709, wd_99, (by decide +kernel), by decide⟩
abbrev mX12_trouble : Md := (yX12_trouble, cX12_trouble, 5, (some .int), 5)
theorem caX12_trouble : CallA mX12_trouble 2 := ⟨wd_1704, wd_99, (by decide +kernel), by decide⟩
abbrev mX12_canPost : Md := (yX12_canPost, cX12_canPost, 2, (some .boolean), 4)
theorem caX12_canPost : CallA mX12_canPost 1 := ⟨wd_1737, wd_99, (by decide +kernel), by decide⟩
abbrev mX12_noSet : Md := (yX12_noSet, cX12_noSet, 2, (some .boolean), 1)
theorem caX12_noSet : CallA mX12_noSet 1 := ⟨wd_1733, wd_99, (by decide +kernel), by decide⟩
abbrev mX12_posted : Md := (yX12_posted, cX12_posted, 3, (some .int), 9)
theorem caX12_posted : CallA mX12_posted 1 := ⟨wd_1729, wd_99, (by decide +kernel), by decide⟩
abbrev mX12_tryPosting : Md := (yX12_tryPosting, cX12_tryPosting, 9, none, 9)
theorem caX12_tryPosting : CallA mX12_tryPosting 1 := ⟨wd_1746, wd_99, (by decide +kernel), by decide⟩
abbrev mX12_posting : Md := (yX12_posting, cX12_posting, 3, (some .int), 10)
theorem caX12_posting : CallA mX12_posting 2 := ⟨wd_1741, wd_99, (by decide +kernel), by decide⟩
abbrev mX12_lossOf : Md := (yX12_lossOf, cX12_lossOf, 3, (some .int), 3)
theorem caX12_lossOf : CallA mX12_lossOf 2 := ⟨wd_1764, wd_99, (by decide +kernel), by decide⟩
abbrev mX12_fitHead : Md := (yX12_fitHead, cX12_fitHead, 10, none, 4)
theorem caX12_fitHead : CallA mX12_fitHead 4 := ⟨wd_1760, wd_99, (by decide +kernel), by decide⟩
abbrev mX12_fitAll : Md := (yX12_fitAll, cX12_fitAll, 4, none, 8)
theorem caX12_fitAll : CallA mX12_fitAll 1 := ⟨wd_1755, wd_99, (by decide +kernel), by decide⟩
abbrev mX12_fit : Md := (yX12_fit, cX12_fit, 6, (some .int), 9)
theorem caX12_fit : CallA mX12_fit 2 := ⟨wd_1750, wd_99, (by decide +kernel), by decide⟩
abbrev mX12_putIn : Md := (yX12_putIn, cX12_putIn, 5, (some .int), 1)
theorem caX12_putIn : CallA mX12_putIn 2 := ⟨wd_1768, wd_99, (by decide +kernel), by decide⟩
abbrev mX12_takeOut : Md := (yX12_takeOut, cX12_takeOut, 5, (some .int), 2)
theorem caX12_takeOut : CallA mX12_takeOut 2 := ⟨wd_1772, wd_99, (by decide +kernel), by decide⟩
abbrev mX12_saw : Md := (yX12_saw, cX12_saw, 3, (some .int), 2)
theorem caX12_saw : CallA mX12_saw 2 := ⟨wd_1776, wd_99, (by decide +kernel), by decide⟩
abbrev mX12_forget : Md := (yX12_forget, cX12_forget, 2, (some .int), 0)
theorem caX12_forget : CallA mX12_forget 0 := ⟨wd_1781, wd_99, (by decide +kernel), by decide⟩
abbrev mX12_standing : Md := (yX12_standing, cX12_standing, 5, (some .int), 0)
theorem caX12_standing : CallA mX12_standing 3 := ⟨wd_1789, wd_99, (by decide +kernel), by decide⟩
abbrev mX12_leaving : Md := (yX12_leaving, cX12_leaving, 3, (some .int), 0)
theorem caX12_leaving : CallA mX12_leaving 2 := ⟨wd_1793, wd_99, (by decide +kernel), by decide⟩
abbrev mX12_story : Md := (yX12_story, cX12_story, 7, (some .int), 1)
theorem caX12_story : CallA mX12_story 2 := ⟨wd_1785, wd_99, (by decide +kernel), by decide⟩
abbrev mX12_bareSize : Md := (yX12_bareSize, cX12_bareSize, 4, (some .int), 1)
theorem caX12_bareSize : CallA mX12_bareSize 1 := ⟨wd_1801, wd_99, (by decide +kernel), by decide⟩
abbrev mX12_bareAt : Md := (yX12_bareAt, cX12_bareAt, 6, (some .int), 1)
theorem caX12_bareAt : CallA mX12_bareAt 2 := ⟨wd_1809, wd_99, (by decide +kernel), by decide⟩
abbrev mX12_headAlike : Md := (yX12_headAlike, cX12_headAlike, 4, (some .int), 2)
theorem caX12_headAlike : CallA mX12_headAlike 2 := ⟨wd_1805, wd_99, (by decide +kernel), by decide⟩
abbrev mX12_tailAlike : Md := (yX12_tailAlike, cX12_tailAlike, 6, (some .int), 2)
theorem caX12_tailAlike : CallA mX12_tailAlike 2 := ⟨wd_1817, wd_99, (by decide +kernel), by decide⟩
abbrev mX12_isPlural : Md := (yX12_isPlural, cX12_isPlural, 4, (some .boolean), 3)
theorem caX12_isPlural : CallA mX12_isPlural 2 := ⟨wd_1813, wd_99, (by decide +kernel), by decide⟩
abbrev mX12_near : Md := (yX12_near, cX12_near, 11, (some .int), 4)
theorem caX12_near : CallA mX12_near 2 := ⟨wd_1797, wd_99, (by decide +kernel), by decide⟩
abbrev mX12_likeSub : Md := (yX12_likeSub, cX12_likeSub, 7, (some .int), 1)
theorem caX12_likeSub : CallA mX12_likeSub 2 := ⟨wd_1825, wd_99, (by decide +kernel), by decide⟩
abbrev mX12_copyWord : Md := (yX12_copyWord, cX12_copyWord, 4, none, 0)
theorem caX12_copyWord : CallA mX12_copyWord 2 := ⟨wd_1829, wd_99, (by decide +kernel), by decide⟩
abbrev mX12_join : Md := (yX12_join, cX12_join, 5, (some .int), 2)
theorem caX12_join : CallA mX12_join 2 := ⟨wd_1821, wd_99, (by decide +kernel), by decide⟩
abbrev mX12_keepAt : Md := (yX12_keepAt, cX12_keepAt, 3, none, 0)
theorem caX12_keepAt : CallA mX12_keepAt 1 := ⟨wd_1394, wd_99, (by decide +kernel), by decide⟩
abbrev mX12_backTo : Md := (yX12_backTo, cX12_backTo, 3, none, 0)
theorem caX12_backTo : CallA mX12_backTo 1 := ⟨wd_1476, wd_99, (by decide +kernel), by decide⟩
abbrev mX12_keep : Md := (yX12_keep, cX12_keep, 2, (some .int), 1)
theorem caX12_keep : CallA mX12_keep 1 := ⟨wd_1833, wd_99, (by decide +kernel), by decide⟩
abbrev mX12_goBack : Md := (yX12_goBack, cX12_goBack, 2, (some .int), 1)
theorem caX12_goBack : CallA mX12_goBack 1 := ⟨wd_1837, wd_99, (by decide +kernel), by decide⟩
abbrev mX12_isKeptWord : Md := (yX12_isKeptWord, cX12_isKeptWord, 6, (some .boolean), 0)
theorem caX12_isKeptWord : CallA mX12_isKeptWord 3 := ⟨wd_1849, wd_99, (by decide +kernel), by decide⟩
abbrev mX12_headLike : Md := (yX12_headLike, cX12_headLike, 4, (some .int), 1)
theorem caX12_headLike : CallA mX12_headLike 2 := ⟨wd_1845, wd_99, (by decide +kernel), by decide⟩
abbrev mX12_subLike : Md := (yX12_subLike, cX12_subLike, 6, (some .int), 1)
theorem caX12_subLike : CallA mX12_subLike 4 := ⟨wd_1853, wd_99, (by decide +kernel), by decide⟩
abbrev mX12_tickOld : Md := (yX12_tickOld, cX12_tickOld, 7, none, 0)
theorem caX12_tickOld : CallA mX12_tickOld 3 := ⟨wd_1857, wd_99, (by decide +kernel), by decide⟩
abbrev mX12_staleRuns : Md := (yX12_staleRuns, cX12_staleRuns, 6, (some .int), 1)
theorem caX12_staleRuns : CallA mX12_staleRuns 0 := ⟨wd_1861, wd_99, (by decide +kernel), by decide⟩
abbrev mX12_stale : Md := (yX12_stale, cX12_stale, 7, (some .int), 2)
theorem caX12_stale : CallA mX12_stale 1 := ⟨wd_1841, wd_99, (by decide +kernel), by decide⟩
abbrev mJ6_bitCount_0f7a4 : Md := (yJ6_bitCount_0f7a4, cJ6_bitCount_0f7a4, 1, (some .int), 0)
theorem caJ6_bitCount_0f7a4 : CallA mJ6_bitCount_0f7a4 1 := ⟨wd_811, wd_106, (by decide +kernel), by decide⟩
abbrev mJ13_bitCount_95d88 : Md := (yJ13_bitCount_95d88, cJ13_bitCount_95d88, 2, (some .int), 0)
theorem caJ13_bitCount_95d88 : CallA mJ13_bitCount_95d88 1 := ⟨wd_934, wd_107, (by decide +kernel), by decide⟩
abbrev mJ9_max_7cf53 : Md := (yJ9_max_7cf53, cJ9_max_7cf53, 2, (some .int), 0)
theorem caJ9_max_7cf53 : CallA mJ9_max_7cf53 2 := ⟨wd_309, wd_94, (by decide +kernel), by decide⟩
abbrev mJ9_min_7cf53 : Md := (yJ9_min_7cf53, cJ9_min_7cf53, 2, (some .int), 0)
theorem caJ9_min_7cf53 : CallA mJ9_min_7cf53 2 := ⟨wd_756, wd_94, (by decide +kernel), by decide⟩
abbrev mJ0_length_8abf5 : Md := (yJ0_length_8abf5, cJ0_length_8abf5, 1, (some .int), 1)
theorem caJ0_length_8abf5 : CallA mJ0_length_8abf5 0 := ⟨wd_526, wd_100, (by decide +kernel), by decide⟩
abbrev mJ0_charAt_5068e : Md := (yJ0_charAt_5068e, cJ0_charAt_5068e, 2, (some .char), 4)
theorem caJ0_charAt_5068e : CallA mJ0_charAt_5068e 1 := ⟨wd_536, wd_100, (by decide +kernel), by decide⟩
abbrev mJ0_coder_7d493 : Md := (yJ0_coder_7d493, cJ0_coder_7d493, 1, (some .byte), 0)
theorem caJ0_coder_7d493 : CallA mJ0_coder_7d493 0 := ⟨wd_530, wd_100, (by decide +kernel), by decide⟩
abbrev mJ0_isLatin1_aae02 : Md := (yJ0_isLatin1_aae02, cJ0_isLatin1_aae02, 1, (some .boolean), 0)
theorem caJ0_isLatin1_aae02 : CallA mJ0_isLatin1_aae02 0 := ⟨wd_540, wd_100, (by decide +kernel), by decide⟩
abbrev mJ0_checkIndex_df160 : Md := (yJ0_checkIndex_df160, cJ0_checkIndex_df160, 2, none, 1)
theorem caJ0_checkIndex_df160 : CallA mJ0_checkIndex_df160 2 := ⟨wd_546, wd_100, (by decide +kernel), by decide⟩
abbrev mJ1_charAt_3b067 : Md := (yJ1_charAt_3b067, cJ1_charAt_3b067, 2, (some .char), 2)
theorem caJ1_charAt_3b067 : CallA mJ1_charAt_3b067 2 := ⟨wd_543, wd_101, (by decide +kernel), by decide⟩
abbrev mJ2_getChar_3b067 : Md := (yJ2_getChar_3b067, cJ2_getChar_3b067, 2, (some .char), 1)
theorem caJ2_getChar_3b067 : CallA mJ2_getChar_3b067 2 := ⟨wd_564, wd_103, (by decide +kernel), by decide⟩
abbrev mJ2_length_9d52b : Md := (yJ2_length_9d52b, cJ2_length_9d52b, 1, (some .int), 0)
theorem caJ2_length_9d52b : CallA mJ2_length_9d52b 1 := ⟨wd_560, wd_103, (by decide +kernel), by decide⟩
abbrev mJ2_charAt_3b067 : Md := (yJ2_charAt_3b067, cJ2_charAt_3b067, 2, (some .char), 3)
theorem caJ2_charAt_3b067 : CallA mJ2_charAt_3b067 2 := ⟨wd_554, wd_103, (by decide +kernel), by decide⟩
abbrev mJ2_checkIndex_2214a : Md := (yJ2_checkIndex_2214a, cJ2_checkIndex_2214a, 2, none, 2)
theorem caJ2_checkIndex_2214a : CallA mJ2_checkIndex_2214a 2 := ⟨wd_557, wd_103, (by decide +kernel), by decide⟩
abbrev mJ3_checkIndex_8e157 : Md := (yJ3_checkIndex_8e157, cJ3_checkIndex_8e157, 3, (some .int), 0)
theorem caJ3_checkIndex_8e157 : CallA mJ3_checkIndex_8e157 3 := ⟨wd_551, wd_102, (by decide +kernel), by decide⟩
theorem cvX0_64 : CallV RX0 64 mX0_hasHead 0 1 := ⟨caX0_hasHead, wd_625, wd_626, wd_627, rfl⟩
theorem cvX0_68 : CallV RX0 68 mX0_moveMark 0 2 := ⟨caX0_moveMark, wd_857, wd_858, wd_859, rfl⟩
theorem cvX0_72 : CallV RX0 72 mX7_clear 7 0 := ⟨caX7_clear, wd_746, wd_747, wd_748, rfl⟩
theorem cvX0_77 : CallV RX0 77 mX7_put 7 3 := ⟨caX7_put, wd_750, wd_751, wd_752, rfl⟩
theorem cvX0_81 : CallN RX0 81 mX11_isIn 2 := ⟨caX11_isIn, wd_658, "BackPages", List.mem_of_getElem? (i := 13) rfl⟩
theorem cvX0_85 : CallS RX0 85 mJ9_max_7cf53 2 := ⟨caJ9_max_7cf53, wd_1037, wd_308⟩
theorem cvX0_91 : CallS RX0 91 mJ9_min_7cf53 2 := ⟨caJ9_min_7cf53, wd_1050, wd_755⟩
theorem cvX0_94 : CallV RX0 94 mX0_wordOf 0 2 := ⟨caX0_wordOf, wd_1141, wd_791, wd_792, rfl⟩
theorem cvX0_98 : CallV RX0 98 mX0_findSub 0 2 := ⟨caX0_findSub, wd_1142, wd_622, wd_623, rfl⟩
theorem cvX0_102 : CallV RX0 102 mX0_giveMarks 0 4 := ⟨caX0_giveMarks, wd_1147, wd_1148, wd_1149, rfl⟩
theorem cvX0_106 : CallV RX0 106 mX0_putSub 0 2 := ⟨caX0_putSub, wd_1151, wd_630, wd_631, rfl⟩
theorem cvX1_29 : CallV RX1 29 mX1_mostNeeded 1 1 := ⟨caX1_mostNeeded, wd_1011, wd_1012, wd_1013, rfl⟩
theorem cvX1_33 : CallS RX1 33 mJ9_min_7cf53 2 := ⟨caJ9_min_7cf53, wd_1016, wd_755⟩
theorem cvX1_39 : CallV RX1 39 mX1_leastFrom 1 2 := ⟨caX1_leastFrom, wd_1017, wd_1018, wd_1019, rfl⟩
theorem cvX1_42 : CallV RX1 42 mX1_follow 1 2 := ⟨caX1_follow, wd_1025, wd_1026, wd_1027, rfl⟩
theorem cvX1_46 : CallS RX1 46 mJ9_max_7cf53 2 := ⟨caJ9_max_7cf53, wd_1015, wd_308⟩
theorem cvX1_49 : CallV RX1 49 mX1_lossBy 1 3 := ⟨caX1_lossBy, wd_1021, wd_1022, wd_1023, rfl⟩
theorem cvX2_34 : CallS RX2 34 mX2_below 1 := ⟨caX2_below, wd_923, wd_924⟩
theorem cvX2_40 : CallN RX2 40 mX11_isIn 2 := ⟨caX11_isIn, wd_658, "BackPages", List.mem_of_getElem? (i := 14) rfl⟩
theorem cvX2_44 : CallS RX2 44 mJ13_bitCount_95d88 1 := ⟨caJ13_bitCount_95d88, wd_932, wd_933⟩
theorem cvX3_34 : CallV RX3 34 mX0_filledHeads 0 0 := ⟨caX0_filledHeads, wd_963, wd_806, wd_807, rfl⟩
theorem cvX3_43 : CallV RX3 43 mX0_stepsToFilled 0 2 := ⟨caX0_stepsToFilled, wd_964, wd_895, wd_896, rfl⟩
theorem cvX3_47 : CallN RX3 47 mX11_isIn 2 := ⟨caX11_isIn, wd_658, "BackPages", List.mem_of_getElem? (i := 15) rfl⟩
theorem cvX4_41 : CallV RX4 41 mX6_sort 6 4 := ⟨caX6_sort, wd_698, wd_699, wd_700, rfl⟩
theorem cvX4_60 : CallV RX4 60 mX0_marksOf 0 1 := ⟨caX0_marksOf, wd_714, wd_715, wd_716, rfl⟩
theorem cvX4_64 : CallV RX4 64 mX8_putWord 8 1 := ⟨caX8_putWord, wd_718, wd_719, wd_720, rfl⟩
theorem cvX4_68 : CallV RX4 68 mX4_setRuns 4 4 := ⟨caX4_setRuns, wd_730, wd_731, wd_732, rfl⟩
theorem cvX4_72 : CallV RX4 72 mX0_markedSubs 0 1 := ⟨caX0_markedSubs, wd_774, wd_775, wd_776, rfl⟩
theorem cvX4_75 : CallV RX4 75 mX4_arrangeSubs 4 3 := ⟨caX4_arrangeSubs, wd_778, wd_779, wd_780, rfl⟩
theorem cvX4_82 : CallN RX4 82 mX11_isIn 2 := ⟨caX11_isIn, wd_658, "BackPages", List.mem_of_getElem? (i := 12) rfl⟩
theorem cvX4_88 : CallV RX4 88 mX8_putText 8 1 := ⟨caX8_putText, wd_784, wd_785, wd_786, rfl⟩
theorem cvX4_92 : CallV RX4 92 mX0_wordOf 0 2 := ⟨caX0_wordOf, wd_790, wd_791, wd_792, rfl⟩
theorem cvX4_98 : CallV RX4 98 mX4_setSee 4 4 := ⟨caX4_setSee, wd_795, wd_796, wd_797, rfl⟩
theorem cvX4_107 : CallV RX4 107 mX8_endRow 8 0 := ⟨caX8_endRow, wd_769, wd_770, wd_771, rfl⟩
theorem cvX4_110 : CallV RX4 110 mX4_setAlso 4 3 := ⟨caX4_setAlso, wd_800, wd_801, wd_802, rfl⟩
theorem cvX4_114 : CallV RX4 114 mX8_placeUnit 8 0 := ⟨caX8_placeUnit, wd_734, wd_735, wd_736, rfl⟩
theorem cvX4_117 : CallV RX4 117 mX0_gatherRuns 0 3 := ⟨caX0_gatherRuns, wd_742, wd_743, wd_744, rfl⟩
theorem cvX4_134 : CallV RX4 134 mX8_putRun 8 3 := ⟨caX8_putRun, wd_761, wd_762, wd_763, rfl⟩
theorem cvX5_44 : CallV RX5 44 mX0_clear 0 0 := ⟨caX0_clear, wd_491, wd_492, wd_493, rfl⟩
theorem cvX5_47 : CallV RX5 47 mX5_skipBlanks 5 0 := ⟨caX5_skipBlanks, wd_499, wd_500, wd_501, rfl⟩
theorem cvX5_50 : CallS RX5 50 mX5_isLetter 1 := ⟨caX5_isLetter, wd_511, wd_512⟩
theorem cvX5_54 : CallS RX5 54 mX5_isFigure 1 := ⟨caX5_isFigure, wd_637, wd_638⟩
theorem cvX5_66 : CallV RX5 66 mX5_skipWord 5 0 := ⟨caX5_skipWord, wd_507, wd_508, wd_509, rfl⟩
theorem cvX5_69 : CallV RX5 69 mX5_kindOf 5 2 := ⟨caX5_kindOf, wd_514, wd_515, wd_516, rfl⟩
theorem cvX5_73 : CallV RX5 73 mX5_fail 5 2 := ⟨caX5_fail, wd_574, wd_575, wd_576, rfl⟩
theorem cvX5_76 : CallV RX5 76 mX5_isOneTooMany 5 1 := ⟨caX5_isOneTooMany, wd_578, wd_579, wd_580, rfl⟩
theorem cvX5_79 : CallV RX5 79 mX5_readMark 5 0 := ⟨caX5_readMark, wd_582, wd_583, wd_584, rfl⟩
theorem cvX5_82 : CallV RX5 82 mX5_readAsked 5 0 := ⟨caX5_readAsked, wd_653, wd_654, wd_655, rfl⟩
theorem cvX5_85 : CallV RX5 85 mX5_readLink 5 1 := ⟨caX5_readLink, wd_670, wd_671, wd_672, rfl⟩
theorem cvX5_89 : CallV RX5 89 mX5_readEnd 5 0 := ⟨caX5_readEnd, wd_674, wd_675, wd_676, rfl⟩
theorem cvX5_94 : CallV RX5 94 mX5_isWord 5 3 := ⟨caX5_isWord, wd_519, wd_520, wd_521, rfl⟩
theorem cvX5_107 : CallV RX5 107 mX5_byteHere 5 0 := ⟨caX5_byteHere, wd_594, wd_595, wd_596, rfl⟩
theorem cvX5_110 : CallV RX5 110 mX5_readHead 5 0 := ⟨caX5_readHead, wd_586, wd_587, wd_588, rfl⟩
theorem cvX5_113 : CallV RX5 113 mX5_readSub 5 1 := ⟨caX5_readSub, wd_617, wd_618, wd_619, rfl⟩
theorem cvX5_117 : CallV RX5 117 mX5_readNumber 5 2 := ⟨caX5_readNumber, wd_633, wd_634, wd_635, rfl⟩
theorem cvX5_120 : CallV RX5 120 mX5_readMain 5 0 := ⟨caX5_readMain, wd_644, wd_645, wd_646, rfl⟩
theorem cvX5_124 : CallV RX5 124 mX0_putMark 0 5 := ⟨caX0_putMark, wd_649, wd_650, wd_651, rfl⟩
theorem cvX5_133 : CallV RX5 133 mX5_wordPlace 5 1 := ⟨caX5_wordPlace, wd_660, wd_661, wd_662, rfl⟩
theorem cvX5_138 : CallN RX5 138 mX11_isIn 2 := ⟨caX11_isIn, wd_658, "BackPages", List.mem_of_getElem? (i := 11) rfl⟩
theorem cvX5_149 : CallS RX5 149 mX10_lengthOf 1 := ⟨caX10_lengthOf, wd_664, wd_665⟩
theorem cvX5_155 : CallV RX5 155 mX5_wordStart 5 0 := ⟨caX5_wordStart, wd_590, wd_591, wd_592, rfl⟩
theorem cvX5_158 : CallV RX5 158 mX5_packWord 5 1 := ⟨caX5_packWord, wd_602, wd_603, wd_604, rfl⟩
theorem cvX5_162 : CallV RX5 162 mX0_findHead 0 1 := ⟨caX0_findHead, wd_609, wd_610, wd_611, rfl⟩
theorem cvX5_165 : CallV RX5 165 mX0_putHead 0 1 := ⟨caX0_putHead, wd_613, wd_614, wd_615, rfl⟩
theorem cvX5_168 : CallV RX5 168 mX0_findSub 0 2 := ⟨caX0_findSub, wd_621, wd_622, wd_623, rfl⟩
theorem cvX5_172 : CallV RX5 172 mX0_putSub 0 2 := ⟨caX0_putSub, wd_629, wd_630, wd_631, rfl⟩
theorem cvX5_175 : CallV RX5 175 mX5_isFit 5 2 := ⟨caX5_isFit, wd_598, wd_599, wd_600, rfl⟩
theorem cvX5_178 : CallS RX5 178 mX10_codeAt 2 := ⟨caX10_codeAt, wd_606, wd_607⟩
theorem cvX5_182 : CallV RX5 182 mX5_skipNumber 5 0 := ⟨caX5_skipNumber, wd_640, wd_641, wd_642, rfl⟩
theorem cvX6_19 : CallS RX6 19 mX10_withoutLines 1 := ⟨caX10_withoutLines, wd_702, wd_703⟩
theorem cvX7_26 : CallS RX7 26 mJ9_min_7cf53 2 := ⟨caJ9_min_7cf53, wd_754, wd_755⟩
theorem cvX7_32 : CallS RX7 32 mJ9_max_7cf53 2 := ⟨caJ9_max_7cf53, wd_757, wd_308⟩
theorem cvX8_29 : CallS RX8 29 mJ9_max_7cf53 2 := ⟨caJ9_max_7cf53, wd_307, wd_308⟩
theorem cvX8_47 : CallV RX8 47 mX8_putByte 8 1 := ⟨caX8_putByte, wd_726, wd_727, wd_728, rfl⟩
theorem cvX8_51 : CallS RX8 51 mX10_lengthOf 1 := ⟨caX10_lengthOf, wd_722, wd_665⟩
theorem cvX8_57 : CallS RX8 57 mX10_byteOf 2 := ⟨caX10_byteOf, wd_723, wd_724⟩
theorem cvX8_61 : CallV RX8 61 mX8_putPage 8 1 := ⟨caX8_putPage, wd_765, wd_766, wd_767, rfl⟩
theorem cvX8_64 : CallV RX8 64 mX8_write 8 1 := ⟨caX8_write, wd_738, wd_739, wd_740, rfl⟩
theorem cvX8_67 : CallV RX8 67 mX8_placeUnit 8 0 := ⟨caX8_placeUnit, wd_773, wd_735, wd_736, rfl⟩
theorem cvX9_25 : CallV RX9 25 mX9_ifStands 9 3 := ⟨caX9_ifStands, wd_1093, wd_1094, wd_1095, rfl⟩
theorem cvX9_29 : CallV RX9 29 mX9_ifLeftOut 9 2 := ⟨caX9_ifLeftOut, wd_1097, wd_1098, wd_1099, rfl⟩
theorem cvX9_33 : CallS RX9 33 mJ9_min_7cf53 2 := ⟨caJ9_min_7cf53, wd_1101, wd_755⟩
theorem cvX10_11 : CallS RX10 11 mX10_codeOf 2 := ⟨caX10_codeOf, wd_667, wd_668⟩
theorem cvX10_15 : CallS RX10 15 mX10_codeAt 2 := ⟨caX10_codeAt, wd_705, wd_607⟩
theorem cvX10_19 : CallS RX10 19 mX10_withoutLines 1 := ⟨caX10_withoutLines, wd_1121, wd_703⟩
theorem cvX10_23 : CallS RX10 23 mX10_isPlural 2 := ⟨caX10_isPlural, wd_1122, wd_1123⟩
theorem cvX10_27 : CallS RX10 27 mX10_isOneByteOff 2 := ⟨caX10_isOneByteOff, wd_1126, wd_1127⟩
theorem cvX10_30 : CallS RX10 30 mX10_lengthOf 1 := ⟨caX10_lengthOf, wd_1125, wd_665⟩
theorem cvX10_34 : CallS RX10 34 mX10_behind 2 := ⟨caX10_behind, wd_1129, wd_1130⟩
theorem cvX11_102 : CallV RX11 102 mX5_takeBytes 5 2 := ⟨caX5_takeBytes, wd_479, wd_480, wd_481, rfl⟩
theorem cvX11_106 : CallV RX11 106 mX5_begin 5 0 := ⟨caX5_begin, wd_487, wd_488, wd_489, rfl⟩
theorem cvX11_109 : CallV RX11 109 mX5_hasMore 5 0 := ⟨caX5_hasMore, wd_495, wd_496, wd_497, rfl⟩
theorem cvX11_113 : CallV RX11 113 mX5_readClause 5 0 := ⟨caX5_readClause, wd_503, wd_504, wd_505, rfl⟩
theorem cvX11_119 : CallV RX11 119 mX5_changeBook 5 1 := ⟨caX5_changeBook, wd_678, wd_679, wd_680, rfl⟩
theorem cvX11_135 : CallV RX11 135 mX11_printAll 10 0 := ⟨caX11_printAll, wd_690, wd_692, wd_0, rfl⟩
theorem cvX11_142 : CallV RX11 142 mX0_filledHeads 0 0 := ⟨caX0_filledHeads, wd_805, wd_806, wd_807, rfl⟩
theorem cvX11_146 : CallS RX11 146 mJ6_bitCount_0f7a4 1 := ⟨caJ6_bitCount_0f7a4, wd_809, wd_810⟩
theorem cvX11_152 : CallV RX11 152 mX0_hasHead 0 1 := ⟨caX0_hasHead, wd_819, wd_626, wd_627, rfl⟩
theorem cvX11_159 : CallV RX11 159 mX0_gatherRuns 0 3 := ⟨caX0_gatherRuns, wd_820, wd_743, wd_744, rfl⟩
theorem cvX11_173 : CallS RX11 173 mX11_isIn 2 := ⟨caX11_isIn, wd_821, wd_658⟩
theorem cvX11_177 : CallV RX11 177 mX0_hasEntry 0 2 := ⟨caX0_hasEntry, wd_826, wd_827, wd_828, rfl⟩
theorem cvX11_180 : CallV RX11 180 mX0_wordOf 0 2 := ⟨caX0_wordOf, wd_830, wd_791, wd_792, rfl⟩
theorem cvX11_184 : CallS RX11 184 mX10_lengthOf 1 := ⟨caX10_lengthOf, wd_831, wd_665⟩
theorem cvX11_190 : CallS RX11 190 mX10_byteOf 2 := ⟨caX10_byteOf, wd_832, wd_724⟩
theorem cvX11_194 : CallV RX11 194 mX0_hasMark 0 1 := ⟨caX0_hasMark, wd_837, wd_838, wd_839, rfl⟩
theorem cvX11_213 : CallS RX11 213 mX11_isPage 1 := ⟨caX11_isPage, wd_845, wd_846⟩
theorem cvX11_216 : CallV RX11 216 mX0_putMark 0 5 := ⟨caX0_putMark, wd_848, wd_650, wd_651, rfl⟩
theorem cvX11_220 : CallV RX11 220 mX0_removeMark 0 1 := ⟨caX0_removeMark, wd_853, wd_854, wd_855, rfl⟩
theorem cvX11_232 : CallV RX11 232 mX4_arrange 4 2 := ⟨caX4_arrange, wd_694, wd_695, wd_696, rfl⟩
theorem cvX11_245 : CallV RX11 245 mX4_arrangeSubs 4 3 := ⟨caX4_arrangeSubs, wd_881, wd_779, wd_780, rfl⟩
theorem cvX11_256 : CallV RX11 256 mX8_clear 8 1 := ⟨caX8_clear, wd_706, wd_707, wd_708, rfl⟩
theorem cvX11_259 : CallV RX11 259 mX4_setHead 4 5 := ⟨caX4_setHead, wd_710, wd_711, wd_712, rfl⟩
theorem cvX11_263 : CallV RX11 263 mX0_stepsToFilled 0 2 := ⟨caX0_stepsToFilled, wd_894, wd_895, wd_896, rfl⟩
theorem cvX11_267 : CallV RX11 267 mX0_headAfter 0 2 := ⟨caX0_headAfter, wd_899, wd_900, wd_901, rfl⟩
theorem cvX11_270 : CallV RX11 270 mX0_headsWith 0 1 := ⟨caX0_headsWith, wd_907, wd_908, wd_909, rfl⟩
theorem cvX11_273 : CallV RX11 273 mX0_oneStepOn 0 1 := ⟨caX0_oneStepOn, wd_911, wd_912, wd_913, rfl⟩
theorem cvX11_276 : CallV RX11 276 mX2_gather 2 1 := ⟨caX2_gather, wd_919, wd_920, wd_921, rfl⟩
theorem cvX11_280 : CallV RX11 280 mX2_sizeOf 2 1 := ⟨caX2_sizeOf, wd_927, wd_928, wd_929, rfl⟩
theorem cvX11_283 : CallV RX11 283 mX11_hasTrouble 10 4 := ⟨caX11_hasTrouble, wd_942, wd_944, wd_1, rfl⟩
theorem cvX11_287 : CallV RX11 287 mX0_goesRound 0 1 := ⟨caX0_goesRound, wd_946, wd_947, wd_948, rfl⟩
theorem cvX11_290 : CallV RX11 290 mX0_markedSubs 0 1 := ⟨caX0_markedSubs, wd_950, wd_775, wd_776, rfl⟩
theorem cvX11_293 : CallV RX11 293 mX2_hasTwin 2 2 := ⟨caX2_hasTwin, wd_951, wd_952, wd_953, rfl⟩
theorem cvX11_296 : CallV RX11 296 mX3_postable 3 1 := ⟨caX3_postable, wd_959, wd_960, wd_961, rfl⟩
theorem cvX11_300 : CallV RX11 300 mX11_sourceOf 10 2 := ⟨caX11_sourceOf, wd_965, wd_967, wd_2, rfl⟩
theorem cvX11_303 : CallV RX11 303 mX11_offerPosts 10 0 := ⟨caX11_offerPosts, wd_973, wd_975, wd_3, rfl⟩
theorem cvX11_306 : CallV RX11 306 mX3_choose 3 2 := ⟨caX3_choose, wd_985, wd_986, wd_987, rfl⟩
theorem cvX11_319 : CallV RX11 319 mX3_clear 3 0 := ⟨caX3_clear, wd_977, wd_978, wd_979, rfl⟩
theorem cvX11_321 : CallV RX11 321 mX3_offer 3 3 := ⟨caX3_offer, wd_981, wd_982, wd_983, rfl⟩
theorem cvX11_325 : CallV RX11 325 mX11_offerFits 10 0 := ⟨caX11_offerFits, wd_994, wd_996, wd_4, rfl⟩
theorem cvX11_328 : CallV RX11 328 mX1_choose 1 2 := ⟨caX1_choose, wd_1007, wd_1008, wd_1009, rfl⟩
theorem cvX11_335 : CallV RX11 335 mX1_clear 1 1 := ⟨caX1_clear, wd_998, wd_999, wd_1000, rfl⟩
theorem cvX11_336 : CallV RX11 336 mX1_offer 1 4 := ⟨caX1_offer, wd_1003, wd_1004, wd_1005, rfl⟩
theorem cvX11_339 : CallV RX11 339 mX0_lastPageAbove 0 1 := ⟨caX0_lastPageAbove, wd_1033, wd_1034, wd_1035, rfl⟩
theorem cvX11_342 : CallV RX11 342 mX0_pushPages 0 2 := ⟨caX0_pushPages, wd_1038, wd_1039, wd_1040, rfl⟩
theorem cvX11_345 : CallV RX11 345 mX0_cutPages 0 2 := ⟨caX0_cutPages, wd_1046, wd_1047, wd_1048, rfl⟩
theorem cvX11_348 : CallS RX11 348 mX11_isImage 1 := ⟨caX11_isImage, wd_1055, wd_1056⟩
theorem cvX11_358 : CallV RX11 358 mX0_findHead 0 1 := ⟨caX0_findHead, wd_1058, wd_610, wd_611, rfl⟩
theorem cvX11_361 : CallV RX11 361 mX11_staleRuns 10 5 := ⟨caX11_staleRuns, wd_1059, wd_1061, wd_5, rfl⟩
theorem cvX11_365 : CallV RX11 365 mX0_findSub 0 2 := ⟨caX0_findSub, wd_1068, wd_622, wd_623, rfl⟩
theorem cvX11_368 : CallV RX11 368 mX7_clear 7 0 := ⟨caX7_clear, wd_1063, wd_747, wd_748, rfl⟩
theorem cvX11_369 : CallV RX11 369 mX7_holds 7 2 := ⟨caX7_holds, wd_1064, wd_1065, wd_1066, rfl⟩
theorem cvX11_372 : CallV RX11 372 mX9_lastTold 9 0 := ⟨caX9_lastTold, wd_1073, wd_1074, wd_1075, rfl⟩
theorem cvX11_375 : CallV RX11 375 mX9_put 9 2 := ⟨caX9_put, wd_1077, wd_1078, wd_1079, rfl⟩
theorem cvX11_378 : CallV RX11 378 mX9_weigh 9 1 := ⟨caX9_weigh, wd_1089, wd_1090, wd_1091, rfl⟩
theorem cvX11_381 : CallV RX11 381 mX9_leastCost 9 0 := ⟨caX9_leastCost, wd_1102, wd_1103, wd_1104, rfl⟩
theorem cvX11_384 : CallV RX11 384 mX9_standsAt 9 2 := ⟨caX9_standsAt, wd_1106, wd_1107, wd_1108, rfl⟩
theorem cvX11_387 : CallV RX11 387 mX11_areTwoHeads 10 2 := ⟨caX11_areTwoHeads, wd_1114, wd_1116, wd_6, rfl⟩
theorem cvX11_390 : CallS RX11 390 mX10_nearness 2 := ⟨caX10_nearness, wd_1118, wd_1119⟩
theorem cvX11_394 : CallV RX11 394 mX0_subsMissing 0 2 := ⟨caX0_subsMissing, wd_1137, wd_1138, wd_1139, rfl⟩
theorem cvX11_397 : CallV RX11 397 mX0_joinMarks 0 2 := ⟨caX0_joinMarks, wd_1143, wd_1144, wd_1145, rfl⟩
theorem cvX11_400 : CallV RX11 400 mX0_joinRest 0 2 := ⟨caX0_joinRest, wd_1152, wd_1153, wd_1154, rfl⟩
theorem cvX11_403 : CallV RX11 403 mX0_marksOf 0 1 := ⟨caX0_marksOf, wd_1156, wd_715, wd_716, rfl⟩
theorem cvX11_406 : CallV RX11 406 mX0_copyFrom 0 1 := ⟨caX0_copyFrom, wd_1161, wd_1162, wd_1163, rfl⟩
theorem cvX12_146 : CallS RX12 146 mX12_in 3 := ⟨caX12_in, wd_1383, wd_1384⟩
theorem cvX12_165 : CallV RX12 165 mX12_here 11 0 := ⟨caX12_here, wd_1395, wd_1397, wd_8, rfl⟩
theorem cvX12_172 : CallS RX12 172 mX12_isLetter 1 := ⟨caX12_isLetter, wd_1407, wd_1408⟩
theorem cvX12_181 : CallV RX12 181 mX12_takeWord 11 0 := ⟨caX12_takeWord, wd_1403, wd_1405, wd_10, rfl⟩
theorem cvX12_184 : CallV RX12 184 mX12_want 11 3 := ⟨caX12_want, wd_1420, wd_1422, wd_13, rfl⟩
theorem cvX12_188 : CallV RX12 188 mX12_isName 11 0 := ⟨caX12_isName, wd_1428, wd_1430, wd_15, rfl⟩
theorem cvX12_195 : CallS RX12 195 mX12_slot 2 := ⟨caX12_slot, wd_1433, wd_1434⟩
theorem cvX12_199 : CallV RX12 199 mX12_isHere 11 1 := ⟨caX12_isHere, wd_1436, wd_1438, wd_16, rfl⟩
theorem cvX12_202 : CallV RX12 202 mX12_nameIt 11 1 := ⟨caX12_nameIt, wd_1440, wd_1442, wd_17, rfl⟩
theorem cvX12_213 : CallV RX12 213 mX12_takeHead 11 0 := ⟨caX12_takeHead, wd_1424, wd_1426, wd_14, rfl⟩
theorem cvX12_216 : CallV RX12 216 mX12_takeSub 11 1 := ⟨caX12_takeSub, wd_1444, wd_1446, wd_18, rfl⟩
theorem cvX12_220 : CallV RX12 220 mX12_takeNumber 11 2 := ⟨caX12_takeNumber, wd_1448, wd_1450, wd_19, rfl⟩
theorem cvX12_223 : CallV RX12 223 mX12_isWord 11 6 := ⟨caX12_isWord, wd_1412, wd_1414, wd_11, rfl⟩
theorem cvX12_227 : CallV RX12 227 mX12_lay 11 5 := ⟨caX12_lay, wd_1454, wd_1456, wd_20, rfl⟩
theorem cvX12_237 : CallS RX12 237 mX12_has 2 := ⟨caX12_has, wd_1466, wd_1467⟩
theorem cvX12_244 : CallV RX12 244 mX12_takeMark 11 1 := ⟨caX12_takeMark, wd_1416, wd_1418, wd_12, rfl⟩
theorem cvX12_247 : CallV RX12 247 mX12_takeSee 11 1 := ⟨caX12_takeSee, wd_1458, wd_1460, wd_21, rfl⟩
theorem cvX12_250 : CallV RX12 250 mX12_takeAlso 11 1 := ⟨caX12_takeAlso, wd_1462, wd_1464, wd_22, rfl⟩
theorem cvX12_253 : CallV RX12 253 mX12_takeAsked 11 0 := ⟨caX12_takeAsked, wd_1469, wd_1471, wd_23, rfl⟩
theorem cvX12_256 : CallV RX12 256 mX12_keepAt 11 1 := ⟨caX12_keepAt, wd_1391, wd_1393, wd_7, rfl⟩
theorem cvX12_259 : CallV RX12 259 mX12_takeClause 11 0 := ⟨caX12_takeClause, wd_1399, wd_1401, wd_9, rfl⟩
theorem cvX12_262 : CallV RX12 262 mX12_backTo 11 1 := ⟨caX12_backTo, wd_1473, wd_1475, wd_24, rfl⟩
theorem cvX12_267 : CallV RX12 267 mX12_isOf 11 3 := ⟨caX12_isOf, wd_1524, wd_1526, wd_34, rfl⟩
theorem cvX12_271 : CallS RX12 271 mX12_one 1 := ⟨caX12_one, wd_1509, wd_1510⟩
theorem cvX12_275 : CallV RX12 275 mX12_marksOf 11 2 := ⟨caX12_marksOf, wd_1520, wd_1522, wd_33, rfl⟩
theorem cvX12_278 : CallV RX12 278 mX12_isFilled 11 1 := ⟨caX12_isFilled, wd_1516, wd_1518, wd_32, rfl⟩
theorem cvX12_284 : CallV RX12 284 mX12_linesOfAll 11 1 := ⟨caX12_linesOfAll, wd_1485, wd_1487, wd_25, rfl⟩
theorem cvX12_287 : CallV RX12 287 mX12_bytesOfAll 11 0 := ⟨caX12_bytesOfAll, wd_1600, wd_1602, wd_53, rfl⟩
theorem cvX12_290 : CallV RX12 290 mX12_filled 11 0 := ⟨caX12_filled, wd_1604, wd_1606, wd_54, rfl⟩
theorem cvX12_293 : CallV RX12 293 mX12_noHead 11 1 := ⟨caX12_noHead, wd_1612, wd_1614, wd_55, rfl⟩
theorem cvX12_296 : CallV RX12 296 mX12_tick 11 2 := ⟨caX12_tick, wd_1572, wd_1574, wd_46, rfl⟩
theorem cvX12_300 : CallV RX12 300 mX12_runsTicked 11 0 := ⟨caX12_runsTicked, wd_1616, wd_1618, wd_56, rfl⟩
theorem cvX12_303 : CallV RX12 303 mX12_linesOf 11 2 := ⟨caX12_linesOf, wd_1489, wd_1491, wd_26, rfl⟩
theorem cvX12_306 : CallV RX12 306 mX12_noSub 11 2 := ⟨caX12_noSub, wd_1624, wd_1626, wd_57, rfl⟩
theorem cvX12_311 : CallS RX12 311 mX12_isPage 1 := ⟨caX12_isPage, wd_1637, wd_1638⟩
theorem cvX12_314 : CallV RX12 314 mX12_takeAway 11 1 := ⟨caX12_takeAway, wd_1645, wd_1647, wd_58, rfl⟩
theorem cvX12_327 : CallV RX12 327 mX12_nextRun 11 1 := ⟨caX12_nextRun, wd_1580, wd_1582, wd_48, rfl⟩
theorem cvX12_335 : CallV RX12 335 mX12_signAt 11 2 := ⟨caX12_signAt, wd_1505, wd_1507, wd_30, rfl⟩
theorem cvX12_338 : CallV RX12 338 mX12_isLess 11 2 := ⟨caX12_isLess, wd_1501, wd_1503, wd_29, rfl⟩
theorem cvX12_341 : CallV RX12 341 mX12_placeOf 11 4 := ⟨caX12_placeOf, wd_1497, wd_1499, wd_28, rfl⟩
theorem cvX12_345 : CallV RX12 345 mX12_findOrder 11 0 := ⟨caX12_findOrder, wd_1493, wd_1495, wd_27, rfl⟩
theorem cvX12_348 : CallV RX12 348 mX12_subOf 11 2 := ⟨caX12_subOf, wd_1592, wd_1594, wd_51, rfl⟩
theorem cvX12_364 : CallV RX12 364 mX12_sign 11 1 := ⟨caX12_sign, wd_1544, wd_1546, wd_39, rfl⟩
theorem cvX12_370 : CallV RX12 370 mX12_put 11 1 := ⟨caX12_put, wd_1560, wd_1562, wd_43, rfl⟩
theorem cvX12_373 : CallV RX12 373 mX12_endLine 11 0 := ⟨caX12_endLine, wd_1564, wd_1566, wd_44, rfl⟩
theorem cvX12_376 : CallV RX12 376 mX12_beginUnit 11 1 := ⟨caX12_beginUnit, wd_1540, wd_1542, wd_38, rfl⟩
theorem cvX12_379 : CallV RX12 379 mX12_signNumber 11 1 := ⟨caX12_signNumber, wd_1584, wd_1586, wd_49, rfl⟩
theorem cvX12_382 : CallV RX12 382 mX12_putUnit 11 0 := ⟨caX12_putUnit, wd_1556, wd_1558, wd_42, rfl⟩
theorem cvX12_385 : CallV RX12 385 mX12_beginRow 11 0 := ⟨caX12_beginRow, wd_1536, wd_1538, wd_37, rfl⟩
theorem cvX12_388 : CallV RX12 388 mX12_signWord 11 1 := ⟨caX12_signWord, wd_1548, wd_1550, wd_40, rfl⟩
theorem cvX12_391 : CallV RX12 391 mX12_putRuns 11 0 := ⟨caX12_putRuns, wd_1576, wd_1578, wd_47, rfl⟩
theorem cvX12_394 : CallV RX12 394 mX12_signSee 11 0 := ⟨caX12_signSee, wd_1552, wd_1554, wd_41, rfl⟩
theorem cvX12_397 : CallV RX12 397 mX12_printSee 11 1 := ⟨caX12_printSee, wd_1532, wd_1534, wd_36, rfl⟩
theorem cvX12_400 : CallV RX12 400 mX12_foundFrom 11 1 := ⟨caX12_foundFrom, wd_1568, wd_1570, wd_45, rfl⟩
theorem cvX12_403 : CallV RX12 403 mX12_printSubs 11 1 := ⟨caX12_printSubs, wd_1588, wd_1590, wd_50, rfl⟩
theorem cvX12_406 : CallV RX12 406 mX12_printAlso 11 1 := ⟨caX12_printAlso, wd_1596, wd_1598, wd_52, rfl⟩
theorem cvX12_409 : CallV RX12 409 mX12_isPrinted 11 1 := ⟨caX12_isPrinted, wd_1512, wd_1514, wd_31, rfl⟩
theorem cvX12_412 : CallV RX12 412 mX12_printHead 11 2 := ⟨caX12_printHead, wd_1528, wd_1530, wd_35, rfl⟩
theorem cvX12_418 : CallV RX12 418 mX12_tickAll 11 1 := ⟨caX12_tickAll, wd_1688, wd_1690, wd_59, rfl⟩
theorem cvX12_421 : CallV RX12 421 mX12_stepOn 11 1 := ⟨caX12_stepOn, wd_1692, wd_1694, wd_60, rfl⟩
theorem cvX12_426 : CallV RX12 426 mX12_goesRound 11 1 := ⟨caX12_goesRound, wd_1710, wd_1712, wd_62, rfl⟩
theorem cvX12_429 : CallV RX12 429 mX12_fullSubs 11 1 := ⟨caX12_fullSubs, wd_1714, wd_1716, wd_63, rfl⟩
theorem cvX12_432 : CallV RX12 432 mX12_alsoEmpty 11 1 := ⟨caX12_alsoEmpty, wd_1718, wd_1720, wd_64, rfl⟩
theorem cvX12_435 : CallV RX12 435 mX12_hasTwin 11 1 := ⟨caX12_hasTwin, wd_1722, wd_1724, wd_65, rfl⟩
theorem cvX12_440 : CallV RX12 440 mX12_isTrouble 11 3 := ⟨caX12_isTrouble, wd_1706, wd_1708, wd_61, rfl⟩
theorem cvX12_443 : CallV RX12 443 mX12_noSet 11 1 := ⟨caX12_noSet, wd_1730, wd_1732, wd_66, rfl⟩
theorem cvX12_446 : CallV RX12 446 mX12_canPost 11 1 := ⟨caX12_canPost, wd_1734, wd_1736, wd_67, rfl⟩
theorem cvX12_460 : CallV RX12 460 mX12_tryPosting 11 1 := ⟨caX12_tryPosting, wd_1743, wd_1745, wd_68, rfl⟩
theorem cvX12_463 : CallV RX12 463 mX12_lossOf 11 2 := ⟨caX12_lossOf, wd_1761, wd_1763, wd_71, rfl⟩
theorem cvX12_467 : CallV RX12 467 mX12_fitHead 11 4 := ⟨caX12_fitHead, wd_1757, wd_1759, wd_70, rfl⟩
theorem cvX12_473 : CallV RX12 473 mX12_fitAll 11 1 := ⟨caX12_fitAll, wd_1752, wd_1754, wd_69, rfl⟩
theorem cvX12_478 : CallV RX12 478 mX12_standing 11 3 := ⟨caX12_standing, wd_1786, wd_1788, wd_72, rfl⟩
theorem cvX12_482 : CallV RX12 482 mX12_leaving 11 2 := ⟨caX12_leaving, wd_1790, wd_1792, wd_73, rfl⟩
theorem cvX12_485 : CallV RX12 485 mX12_bareSize 11 1 := ⟨caX12_bareSize, wd_1798, wd_1800, wd_74, rfl⟩
theorem cvX12_488 : CallV RX12 488 mX12_bareAt 11 2 := ⟨caX12_bareAt, wd_1806, wd_1808, wd_76, rfl⟩
theorem cvX12_491 : CallV RX12 491 mX12_headAlike 11 2 := ⟨caX12_headAlike, wd_1802, wd_1804, wd_75, rfl⟩
theorem cvX12_494 : CallV RX12 494 mX12_isPlural 11 2 := ⟨caX12_isPlural, wd_1810, wd_1812, wd_77, rfl⟩
theorem cvX12_497 : CallV RX12 497 mX12_tailAlike 11 2 := ⟨caX12_tailAlike, wd_1814, wd_1816, wd_78, rfl⟩
theorem cvX12_500 : CallV RX12 500 mX12_likeSub 11 2 := ⟨caX12_likeSub, wd_1822, wd_1824, wd_79, rfl⟩
theorem cvX12_503 : CallV RX12 503 mX12_copyWord 11 2 := ⟨caX12_copyWord, wd_1826, wd_1828, wd_80, rfl⟩
theorem cvX12_506 : CallV RX12 506 mX12_isKeptWord 11 3 := ⟨caX12_isKeptWord, wd_1846, wd_1848, wd_82, rfl⟩
theorem cvX12_509 : CallV RX12 509 mX12_headLike 11 2 := ⟨caX12_headLike, wd_1842, wd_1844, wd_81, rfl⟩
theorem cvX12_512 : CallV RX12 512 mX12_subLike 11 4 := ⟨caX12_subLike, wd_1850, wd_1852, wd_83, rfl⟩
theorem cvX12_515 : CallV RX12 515 mX12_tickOld 11 3 := ⟨caX12_tickOld, wd_1854, wd_1856, wd_84, rfl⟩
theorem cvX12_519 : CallV RX12 519 mX12_staleRuns 11 0 := ⟨caX12_staleRuns, wd_1858, wd_1860, wd_85, rfl⟩
theorem cvJ0_495 : CallS RJ0 495 mJ1_charAt_3b067 2 := ⟨caJ1_charAt_3b067, wd_541, wd_542⟩
theorem cvJ0_498 : CallS RJ0 498 mJ2_charAt_3b067 2 := ⟨caJ2_charAt_3b067, wd_552, wd_553⟩
theorem cvJ0_1059 : CallS RJ0 1059 mJ3_checkIndex_8e157 3 := ⟨caJ3_checkIndex_8e157, wd_549, wd_550⟩
theorem cvJ1_9 : CallS RJ1 9 mJ0_checkIndex_df160 2 := ⟨caJ0_checkIndex_df160, wd_544, wd_545⟩
theorem cvJ2_48 : CallS RJ2 48 mJ2_length_9d52b 1 := ⟨caJ2_length_9d52b, wd_558, wd_559⟩
theorem cvJ2_67 : CallS RJ2 67 mJ2_checkIndex_2214a 2 := ⟨caJ2_checkIndex_2214a, wd_555, wd_556⟩
theorem cvJ2_71 : CallS RJ2 71 mJ2_getChar_3b067 2 := ⟨caJ2_getChar_3b067, wd_562, wd_563⟩
theorem cvJ2_414 : CallS RJ2 414 mJ0_checkIndex_df160 2 := ⟨caJ0_checkIndex_df160, wd_561, wd_545⟩
theorem cvL_15 : CallV RL 15 mX11_feed 10 2 := ⟨caX11_feed, wd_475, wd_476, wd_477, rfl⟩
theorem cvL_19 : CallV RL 19 mX12_feed 11 2 := ⟨caX12_feed, wd_1378, wd_1379, wd_1380, rfl⟩
theorem cvL_20 : CallV RL 20 mX11_read 10 0 := ⟨caX11_read, wd_483, wd_484, wd_485, rfl⟩
theorem cvL_24 : CallV RL 24 mX12_read 11 0 := ⟨caX12_read, wd_1387, wd_1388, wd_1389, rfl⟩
theorem cvL_25 : CallV RL 25 mX11_fault 10 0 := ⟨caX11_fault, wd_682, wd_683, wd_684, rfl⟩
theorem cvL_28 : CallV RL 28 mX12_fault 11 0 := ⟨caX12_fault, wd_1477, wd_1478, wd_1479, rfl⟩
theorem cvL_29 : CallV RL 29 mX11_count 10 1 := ⟨caX11_count, wd_686, wd_687, wd_688, rfl⟩
theorem cvL_33 : CallV RL 33 mX12_count 11 1 := ⟨caX12_count, wd_1481, wd_1482, wd_1483, rfl⟩
theorem cvL_34 : CallV RL 34 mX11_head 10 2 := ⟨caX11_head, wd_815, wd_816, wd_817, rfl⟩
theorem cvL_38 : CallV RL 38 mX12_head 11 2 := ⟨caX12_head, wd_1608, wd_1609, wd_1610, rfl⟩
theorem cvL_39 : CallV RL 39 mX11_name 10 3 := ⟨caX11_name, wd_822, wd_823, wd_824, rfl⟩
theorem cvL_43 : CallV RL 43 mX12_name 11 3 := ⟨caX12_name, wd_1620, wd_1621, wd_1622, rfl⟩
theorem cvL_44 : CallV RL 44 mX11_mark 10 2 := ⟨caX11_mark, wd_833, wd_834, wd_835, rfl⟩
theorem cvL_47 : CallV RL 47 mX12_mark 11 2 := ⟨caX12_mark, wd_1629, wd_1630, wd_1631, rfl⟩
theorem cvL_48 : CallV RL 48 mX11_add 10 5 := ⟨caX11_add, wd_841, wd_842, wd_843, rfl⟩
theorem cvL_52 : CallV RL 52 mX12_add 11 5 := ⟨caX12_add, wd_1633, wd_1634, wd_1635, rfl⟩
theorem cvL_53 : CallV RL 53 mX11_drop 10 1 := ⟨caX11_drop, wd_849, wd_850, wd_851, rfl⟩
theorem cvL_56 : CallV RL 56 mX12_drop 11 1 := ⟨caX12_drop, wd_1641, wd_1642, wd_1643, rfl⟩
theorem cvL_57 : CallV RL 57 mX11_asked 10 2 := ⟨caX11_asked, wd_861, wd_862, wd_863, rfl⟩
theorem cvL_60 : CallV RL 60 mX12_asked 11 2 := ⟨caX12_asked, wd_1649, wd_1650, wd_1651, rfl⟩
theorem cvL_61 : CallV RL 61 mX11_run 10 4 := ⟨caX11_run, wd_865, wd_866, wd_867, rfl⟩
theorem cvL_65 : CallV RL 65 mX12_run 11 4 := ⟨caX12_run, wd_1653, wd_1654, wd_1655, rfl⟩
theorem cvL_66 : CallV RL 66 mX11_order 10 1 := ⟨caX11_order, wd_869, wd_870, wd_871, rfl⟩
theorem cvL_69 : CallV RL 69 mX12_order 11 1 := ⟨caX12_order, wd_1658, wd_1659, wd_1660, rfl⟩
theorem cvL_70 : CallV RL 70 mX11_at 10 1 := ⟨caX11_at, wd_873, wd_874, wd_875, rfl⟩
theorem cvL_73 : CallV RL 73 mX12_at 11 1 := ⟨caX12_at, wd_1662, wd_1663, wd_1664, rfl⟩
theorem cvL_74 : CallV RL 74 mX11_subAt 10 2 := ⟨caX11_subAt, wd_877, wd_878, wd_879, rfl⟩
theorem cvL_77 : CallV RL 77 mX12_subAt 11 2 := ⟨caX12_subAt, wd_1666, wd_1667, wd_1668, rfl⟩
theorem cvL_78 : CallV RL 78 mX11_width 10 1 := ⟨caX11_width, wd_882, wd_883, wd_884, rfl⟩
theorem cvL_81 : CallV RL 81 mX12_width 11 1 := ⟨caX12_width, wd_1670, wd_1671, wd_1672, rfl⟩
theorem cvL_82 : CallV RL 82 mX11_print 10 1 := ⟨caX11_print, wd_886, wd_887, wd_888, rfl⟩
theorem cvL_85 : CallV RL 85 mX12_print 11 1 := ⟨caX12_print, wd_1676, wd_1677, wd_1678, rfl⟩
theorem cvL_86 : CallV RL 86 mX11_look 10 2 := ⟨caX11_look, wd_890, wd_891, wd_892, rfl⟩
theorem cvL_89 : CallV RL 89 mX12_look 11 2 := ⟨caX12_look, wd_1680, wd_1681, wd_1682, rfl⟩
theorem cvL_90 : CallV RL 90 mX11_steps 10 2 := ⟨caX11_steps, wd_903, wd_904, wd_905, rfl⟩
theorem cvL_93 : CallV RL 93 mX12_steps 11 2 := ⟨caX12_steps, wd_1684, wd_1685, wd_1686, rfl⟩
theorem cvL_94 : CallV RL 94 mX11_finds 10 2 := ⟨caX11_finds, wd_915, wd_916, wd_917, rfl⟩
theorem cvL_97 : CallV RL 97 mX12_finds 11 2 := ⟨caX12_finds, wd_1696, wd_1697, wd_1698, rfl⟩
theorem cvL_98 : CallV RL 98 mX11_trouble 10 2 := ⟨caX11_trouble, wd_938, wd_939, wd_940, rfl⟩
theorem cvL_101 : CallV RL 101 mX12_trouble 11 2 := ⟨caX12_trouble, wd_1701, wd_1702, wd_1703, rfl⟩
theorem cvL_102 : CallV RL 102 mX11_posted 10 1 := ⟨caX11_posted, wd_955, wd_956, wd_957, rfl⟩
theorem cvL_105 : CallV RL 105 mX12_posted 11 1 := ⟨caX12_posted, wd_1726, wd_1727, wd_1728, rfl⟩
theorem cvL_106 : CallV RL 106 mX11_posting 10 2 := ⟨caX11_posting, wd_969, wd_970, wd_971, rfl⟩
theorem cvL_109 : CallV RL 109 mX12_posting 11 2 := ⟨caX12_posting, wd_1738, wd_1739, wd_1740, rfl⟩
theorem cvL_110 : CallV RL 110 mX11_fit 10 2 := ⟨caX11_fit, wd_990, wd_991, wd_992, rfl⟩
theorem cvL_113 : CallV RL 113 mX12_fit 11 2 := ⟨caX12_fit, wd_1747, wd_1748, wd_1749, rfl⟩
theorem cvL_114 : CallV RL 114 mX11_putIn 10 2 := ⟨caX11_putIn, wd_1029, wd_1030, wd_1031, rfl⟩
theorem cvL_117 : CallV RL 117 mX12_putIn 11 2 := ⟨caX12_putIn, wd_1765, wd_1766, wd_1767, rfl⟩
theorem cvL_118 : CallV RL 118 mX11_takeOut 10 2 := ⟨caX11_takeOut, wd_1042, wd_1043, wd_1044, rfl⟩
theorem cvL_121 : CallV RL 121 mX12_takeOut 11 2 := ⟨caX12_takeOut, wd_1769, wd_1770, wd_1771, rfl⟩
theorem cvL_122 : CallV RL 122 mX11_stale 10 1 := ⟨caX11_stale, wd_1051, wd_1052, wd_1053, rfl⟩
theorem cvL_125 : CallV RL 125 mX12_stale 11 1 := ⟨caX12_stale, wd_1838, wd_1839, wd_1840, rfl⟩
theorem cvL_126 : CallV RL 126 mX11_saw 10 2 := ⟨caX11_saw, wd_1069, wd_1070, wd_1071, rfl⟩
theorem cvL_129 : CallV RL 129 mX12_saw 11 2 := ⟨caX12_saw, wd_1773, wd_1774, wd_1775, rfl⟩
theorem cvL_130 : CallV RL 130 mX11_forget 10 0 := ⟨caX11_forget, wd_1081, wd_1082, wd_1083, rfl⟩
theorem cvL_133 : CallV RL 133 mX12_forget 11 0 := ⟨caX12_forget, wd_1778, wd_1779, wd_1780, rfl⟩
theorem cvL_134 : CallV RL 134 mX11_story 10 2 := ⟨caX11_story, wd_1085, wd_1086, wd_1087, rfl⟩
theorem cvL_137 : CallV RL 137 mX12_story 11 2 := ⟨caX12_story, wd_1782, wd_1783, wd_1784, rfl⟩
theorem cvL_138 : CallV RL 138 mX11_near 10 2 := ⟨caX11_near, wd_1110, wd_1111, wd_1112, rfl⟩
theorem cvL_141 : CallV RL 141 mX12_near 11 2 := ⟨caX12_near, wd_1794, wd_1795, wd_1796, rfl⟩
theorem cvL_142 : CallV RL 142 mX11_join 10 2 := ⟨caX11_join, wd_1133, wd_1134, wd_1135, rfl⟩
theorem cvL_145 : CallV RL 145 mX12_join 11 2 := ⟨caX12_join, wd_1818, wd_1819, wd_1820, rfl⟩
theorem cvL_146 : CallV RL 146 mX11_keep 10 1 := ⟨caX11_keep, wd_1157, wd_1158, wd_1159, rfl⟩
theorem cvL_149 : CallV RL 149 mX12_keep 11 1 := ⟨caX12_keep, wd_1830, wd_1831, wd_1832, rfl⟩
theorem cvL_150 : CallV RL 150 mX11_goBack 10 1 := ⟨caX11_goBack, wd_1166, wd_1167, wd_1168, rfl⟩
theorem cvL_153 : CallV RL 153 mX12_goBack 11 1 := ⟨caX12_goBack, wd_1834, wd_1835, wd_1836, rfl⟩
theorem kcX1_28 : Cond.constant RX1 28 (iI (268435456)) ∈ gws := wd_1002
theorem kcX12_466 : Cond.constant RX12 466 (iI (1000000)) ∈ gws := wd_1756
theorem kcJ6_265 : Cond.constant RJ6 265 (iI (1431655765)) ∈ gws := wd_812
theorem kcJ6_266 : Cond.constant RJ6 266 (iI (858993459)) ∈ gws := wd_813
theorem kcJ6_267 : Cond.constant RJ6 267 (iI (252645135)) ∈ gws := wd_814
theorem klX2_38 : Cond.constantLong RX2 38 (lI (-1)) ∈ gws := wd_926
theorem klX10_38 : Cond.constantLong RX10 38 (lI (1152921504606846975)) ∈ gws := wd_1132
theorem klL_13 : Cond.constantLong RL 13 (lI (4294967295)) ∈ gws := wd_1862
theorem klX12_144 : Cond.constantLong RX12 144 (lI (8)) ∈ gws := wd_1382
theorem klX12_153 : Cond.constantLong RX12 153 (lI (255)) ∈ gws := wd_1386
theorem klX12_161 : Cond.constantLong RX12 161 (lI (97)) ∈ gws := wd_1410
theorem klX12_163 : Cond.constantLong RX12 163 (lI (122)) ∈ gws := wd_1411
theorem klX12_179 : Cond.constantLong RX12 179 (lI (12)) ∈ gws := wd_1432
theorem klX12_206 : Cond.constantLong RX12 206 (lI (48)) ∈ gws := wd_1452
theorem klX12_208 : Cond.constantLong RX12 208 (lI (57)) ∈ gws := wd_1453
theorem klX12_265 : Cond.constantLong RX12 265 (lI (-1)) ∈ gws := wd_1628
theorem klX12_309 : Cond.constantLong RX12 309 (lI (99)) ∈ gws := wd_1640
theorem klX12_330 : Cond.constantLong RX12 330 (lI (2)) ∈ gws := wd_1657
theorem klX12_351 : Cond.constantLong RX12 351 (lI (20)) ∈ gws := wd_1674
theorem klX12_353 : Cond.constantLong RX12 353 (lI (80)) ∈ gws := wd_1675
theorem klX12_424 : Cond.constantLong RX12 424 (lI (9)) ∈ gws := wd_1700
theorem klX12_438 : Cond.constantLong RX12 438 (lI (6)) ∈ gws := wd_1705
theorem klX12_458 : Cond.constantLong RX12 458 (lI (999)) ∈ gws := wd_1742
theorem klX12_471 : Cond.constantLong RX12 471 (lI (200)) ∈ gws := wd_1751
theorem klX12_476 : Cond.constantLong RX12 476 (lI (199)) ∈ gws := wd_1777
theorem klJ13_314 : Cond.constantLong RJ13 314 (lI (6148914691236517205)) ∈ gws := wd_935
theorem klJ13_316 : Cond.constantLong RJ13 316 (lI (3689348814741910323)) ∈ gws := wd_936
theorem klJ13_318 : Cond.constantLong RJ13 318 (lI (1085102592571150095)) ∈ gws := wd_937
theorem ksX5_92 : (RX5, 92, "mark", 7) ∈ strR := List.mem_of_getElem? (i := 0) rfl
theorem ksX5_98 : (RX5, 98, "see", 8) ∈ strR := List.mem_of_getElem? (i := 1) rfl
theorem ksX5_100 : (RX5, 100, "also", 4) ∈ strR := List.mem_of_getElem? (i := 2) rfl
theorem ksX5_102 : (RX5, 102, "asked", 5) ∈ strR := List.mem_of_getElem? (i := 3) rfl
theorem ksX5_128 : (RX5, 128, "main", 6) ∈ strR := List.mem_of_getElem? (i := 4) rfl
theorem ksX4_86 : (RX4, 86, "  ", 0) ∈ strR := List.mem_of_getElem? (i := 5) rfl
theorem ksX4_96 : (RX4, 96, "  see ", 1) ∈ strR := List.mem_of_getElem? (i := 6) rfl
theorem ksX4_102 : (RX4, 102, ", see ", 3) ∈ strR := List.mem_of_getElem? (i := 7) rfl
theorem ksX4_138 : (RX4, 138, "  see also ", 2) ∈ strR := List.mem_of_getElem? (i := 8) rfl
theorem cpX7_35 : Cond.methodLink RX7 35 arraycopyName ∈ gws ∧ Cond.native arraycopyName ∈ gws ∧ Cond.static arraycopyName ∈ gws ∧ Cond.initialized "java/lang/System" ∈ gws := ⟨wd_758, wd_760, wd_759, wd_105⟩
theorem cpX0_58 : Cond.methodLink RX0 58 arraycopyName ∈ gws ∧ Cond.native arraycopyName ∈ gws ∧ Cond.static arraycopyName ∈ gws ∧ Cond.initialized "java/lang/System" ∈ gws := ⟨wd_1165, wd_760, wd_759, wd_105⟩
