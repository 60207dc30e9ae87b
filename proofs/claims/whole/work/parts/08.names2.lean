/-! ===== methods, fields, calls by name (printed by wip/whole/gen/mk08.py) ===== -/
theorem hin_of {C : String} {T : u_T} {N : Nat} (ps : List Nat) (h : u_ws C T N = ps.filterMap (fun i => lw_tbl[i]?)) (hg : (u_ws C T N).all goodWord = true) : ∀ w ∈ u_ws C T N, w ∈ gws := by
  intro w hw
  have h1 := List.all_eq_true.mp hg w hw
  rw [h] at hw
  obtain ⟨i, -, hi⟩ := List.mem_filterMap.mp hw
  exact gws_in i hi h1
theorem hinX0 : ∀ w ∈ u_ws RX0 TX0 14, w ∈ gws := hin_of [171, 173, 175, 177, 179, 181, 183, 185, 187, 189, 191, 193, 195, 197] (by decide +kernel) (by decide +kernel)
theorem hinX1 : ∀ w ∈ u_ws RX1 TX1 5, w ∈ gws := hin_of [395, 397, 399, 401, 403] (by decide +kernel) (by decide +kernel)
theorem hinX2 : ∀ w ∈ u_ws RX2 TX2 2, w ∈ gws := hin_of [346, 348] (by decide +kernel) (by decide +kernel)
theorem hinX3 : ∀ w ∈ u_ws RX3 TX3 7, w ∈ gws := hin_of [367, 369, 371, 373, 375, 377, 379] (by decide +kernel) (by decide +kernel)
theorem hinX4 : ∀ w ∈ u_ws RX4 TX4 4, w ∈ gws := hin_of [292, 294, 296, 298] (by decide +kernel) (by decide +kernel)
theorem hinX5 : ∀ w ∈ u_ws RX5 TX5 9, w ∈ gws := hin_of [216, 218, 220, 222, 224, 226, 228, 230, 232] (by decide +kernel) (by decide +kernel)
theorem hinX6 : ∀ w ∈ u_ws RX6 TX6 2, w ∈ gws := hin_of [254, 256] (by decide +kernel) (by decide +kernel)
theorem hinX7 : ∀ w ∈ u_ws RX7 TX7 4, w ∈ gws := hin_of [277, 279, 281, 283] (by decide +kernel) (by decide +kernel)
theorem hinX8 : ∀ w ∈ u_ws RX8 TX8 7, w ∈ gws := hin_of [321, 323, 325, 327, 329, 331, 333] (by decide +kernel) (by decide +kernel)
theorem hinX9 : ∀ w ∈ u_ws RX9 TX9 4, w ∈ gws := hin_of [417, 419, 421, 423] (by decide +kernel) (by decide +kernel)
theorem hinX11 : ∀ w ∈ u_ws RX11 TX11 16, w ∈ gws := hin_of [442, 444, 446, 448, 450, 452, 454, 456, 458, 460, 462, 464, 466, 468, 470, 472] (by decide +kernel) (by decide +kernel)
theorem hinX12 : ∀ w ∈ u_ws RX12 TX12 67, w ∈ gws := hin_of [1243, 1245, 1247, 1249, 1251, 1253, 1255, 1257, 1259, 1261, 1263, 1265, 1267, 1269, 1271, 1273, 1275, 1277, 1279, 1281, 1283, 1285, 1287, 1289, 1291, 1293, 1295, 1297, 1299, 1301, 1303, 1305, 1307, 1309, 1311, 1313, 1315, 1317, 1319, 1321, 1323, 1325, 1327, 1329, 1331, 1333, 1335, 1337, 1339, 1341, 1343, 1345, 1347, 1349, 1351, 1353, 1355, 1357, 1359, 1361, 1363, 1365, 1367, 1369, 1371, 1373, 1375] (by decide +kernel) (by decide +kernel)
theorem flX11_10 : FL RX11 10 10 0 := ⟨RX11, TX11, 16, tyX11, rfl, by decide, hinX11, tyX11_ok, nmX11, gws_in 426 (by decide +kernel) (by decide +kernel), (fun h => absurd h (by decide)), (fun h => absurd h (by decide)), (fun h => absurd h (by decide))⟩
theorem flX11_19 : FL RX11 19 10 1 := ⟨RX11, TX11, 16, tyX11, rfl, by decide, hinX11, tyX11_ok, nmX11, gws_in 427 (by decide +kernel) (by decide +kernel), (fun h => absurd h (by decide)), (fun h => absurd h (by decide)), (fun _ => ⟨⟨_, rfl⟩, rfl⟩)⟩
theorem flX11_23 : FL RX11 23 10 2 := ⟨RX11, TX11, 16, tyX11, rfl, by decide, hinX11, tyX11_ok, nmX11, gws_in 428 (by decide +kernel) (by decide +kernel), (fun h => absurd h (by decide)), (fun h => absurd h (by decide)), (fun h => absurd h (by decide))⟩
theorem flX11_27 : FL RX11 27 10 3 := ⟨RX11, TX11, 16, tyX11, rfl, by decide, hinX11, tyX11_ok, nmX11, gws_in 429 (by decide +kernel) (by decide +kernel), (fun _ => ⟨rfl, rfl⟩), (fun h => absurd h (by decide)), (fun h => absurd h (by decide))⟩
theorem flX11_31 : FL RX11 31 10 4 := ⟨RX11, TX11, 16, tyX11, rfl, by decide, hinX11, tyX11_ok, nmX11, gws_in 430 (by decide +kernel) (by decide +kernel), (fun _ => ⟨rfl, rfl⟩), (fun h => absurd h (by decide)), (fun h => absurd h (by decide))⟩
theorem flX11_37 : FL RX11 37 10 5 := ⟨RX11, TX11, 16, tyX11, rfl, by decide, hinX11, tyX11_ok, nmX11, gws_in 431 (by decide +kernel) (by decide +kernel), (fun h => absurd h (by decide)), (fun h => absurd h (by decide)), (fun h => absurd h (by decide))⟩
theorem flX11_46 : FL RX11 46 10 6 := ⟨RX11, TX11, 16, tyX11, rfl, by decide, hinX11, tyX11_ok, nmX11, gws_in 432 (by decide +kernel) (by decide +kernel), (fun h => absurd h (by decide)), (fun h => absurd h (by decide)), (fun h => absurd h (by decide))⟩
theorem flX11_50 : FL RX11 50 10 7 := ⟨RX11, TX11, 16, tyX11, rfl, by decide, hinX11, tyX11_ok, nmX11, gws_in 433 (by decide +kernel) (by decide +kernel), (fun h => absurd h (by decide)), (fun h => absurd h (by decide)), (fun h => absurd h (by decide))⟩
theorem flX11_53 : FL RX11 53 10 8 := ⟨RX11, TX11, 16, tyX11, rfl, by decide, hinX11, tyX11_ok, nmX11, gws_in 434 (by decide +kernel) (by decide +kernel), (fun h => absurd h (by decide)), (fun h => absurd h (by decide)), (fun h => absurd h (by decide))⟩
theorem flX11_57 : FL RX11 57 10 9 := ⟨RX11, TX11, 16, tyX11, rfl, by decide, hinX11, tyX11_ok, nmX11, gws_in 435 (by decide +kernel) (by decide +kernel), (fun h => absurd h (by decide)), (fun _ => ⟨rfl, rfl⟩), (fun h => absurd h (by decide))⟩
theorem flX11_64 : FL RX11 64 10 10 := ⟨RX11, TX11, 16, tyX11, rfl, by decide, hinX11, tyX11_ok, nmX11, gws_in 436 (by decide +kernel) (by decide +kernel), (fun h => absurd h (by decide)), (fun h => absurd h (by decide)), (fun h => absurd h (by decide))⟩
theorem flX11_68 : FL RX11 68 10 11 := ⟨RX11, TX11, 16, tyX11, rfl, by decide, hinX11, tyX11_ok, nmX11, gws_in 437 (by decide +kernel) (by decide +kernel), (fun h => absurd h (by decide)), (fun h => absurd h (by decide)), (fun h => absurd h (by decide))⟩
theorem flX11_74 : FL RX11 74 10 12 := ⟨RX11, TX11, 16, tyX11, rfl, by decide, hinX11, tyX11_ok, nmX11, gws_in 438 (by decide +kernel) (by decide +kernel), (fun h => absurd h (by decide)), (fun h => absurd h (by decide)), (fun h => absurd h (by decide))⟩
theorem flX11_81 : FL RX11 81 10 13 := ⟨RX11, TX11, 16, tyX11, rfl, by decide, hinX11, tyX11_ok, nmX11, gws_in 439 (by decide +kernel) (by decide +kernel), (fun h => absurd h (by decide)), (fun h => absurd h (by decide)), (fun h => absurd h (by decide))⟩
theorem flX11_88 : FL RX11 88 10 14 := ⟨RX11, TX11, 16, tyX11, rfl, by decide, hinX11, tyX11_ok, nmX11, gws_in 440 (by decide +kernel) (by decide +kernel), (fun h => absurd h (by decide)), (fun h => absurd h (by decide)), (fun h => absurd h (by decide))⟩
theorem flX11_95 : FL RX11 95 10 15 := ⟨RX11, TX11, 16, tyX11, rfl, by decide, hinX11, tyX11_ok, nmX11, gws_in 441 (by decide +kernel) (by decide +kernel), (fun h => absurd h (by decide)), (fun h => absurd h (by decide)), (fun h => absurd h (by decide))⟩
theorem flX11_99 : FL RX11 99 5 0 := ⟨RX5, TX5, 9, tyX5, rfl, by decide, hinX5, tyX5_ok, nmX5, gws_in 205 (by decide +kernel) (by decide +kernel), (fun _ => ⟨rfl, rfl⟩), (fun h => absurd h (by decide)), (fun h => absurd h (by decide))⟩
theorem flX11_116 : FL RX11 116 5 1 := ⟨RX5, TX5, 9, tyX5, rfl, by decide, hinX5, tyX5_ok, nmX5, gws_in 207 (by decide +kernel) (by decide +kernel), (fun _ => ⟨rfl, rfl⟩), (fun h => absurd h (by decide)), (fun h => absurd h (by decide))⟩
theorem flX11_123 : FL RX11 123 0 0 := ⟨RX0, TX0, 14, tyX0, rfl, by decide, hinX0, tyX0_ok, nmX0, gws_in 131 (by decide +kernel) (by decide +kernel), (fun _ => ⟨rfl, rfl⟩), (fun h => absurd h (by decide)), (fun h => absurd h (by decide))⟩
theorem flX11_126 : FL RX11 126 5 2 := ⟨RX5, TX5, 9, tyX5, rfl, by decide, hinX5, tyX5_ok, nmX5, gws_in 209 (by decide +kernel) (by decide +kernel), (fun _ => ⟨rfl, rfl⟩), (fun h => absurd h (by decide)), (fun h => absurd h (by decide))⟩
theorem flX11_129 : FL RX11 129 0 7 := ⟨RX0, TX0, 14, tyX0, rfl, by decide, hinX0, tyX0_ok, nmX0, gws_in 154 (by decide +kernel) (by decide +kernel), (fun _ => ⟨rfl, rfl⟩), (fun h => absurd h (by decide)), (fun h => absurd h (by decide))⟩
theorem flX11_132 : FL RX11 132 9 0 := ⟨RX9, TX9, 4, tyX9, rfl, by decide, hinX9, tyX9_ok, nmX9, gws_in 413 (by decide +kernel) (by decide +kernel), (fun _ => ⟨rfl, rfl⟩), (fun h => absurd h (by decide)), (fun h => absurd h (by decide))⟩
theorem flX11_138 : FL RX11 138 8 2 := ⟨RX8, TX8, 7, tyX8, rfl, by decide, hinX8, tyX8_ok, nmX8, gws_in 316 (by decide +kernel) (by decide +kernel), (fun _ => ⟨rfl, rfl⟩), (fun h => absurd h (by decide)), (fun h => absurd h (by decide))⟩
theorem flX11_141 : FL RX11 141 8 1 := ⟨RX8, TX8, 7, tyX8, rfl, by decide, hinX8, tyX8_ok, nmX8, gws_in 313 (by decide +kernel) (by decide +kernel), (fun _ => ⟨rfl, rfl⟩), (fun h => absurd h (by decide)), (fun h => absurd h (by decide))⟩
theorem flX11_156 : FL RX11 156 0 2 := ⟨RX0, TX0, 14, tyX0, rfl, by decide, hinX0, tyX0_ok, nmX0, gws_in 138 (by decide +kernel) (by decide +kernel), (fun h => absurd h (by decide)), (fun h => absurd h (by decide)), (fun h => absurd h (by decide))⟩
theorem flX11_163 : FL RX11 163 7 0 := ⟨RX7, TX7, 4, tyX7, rfl, by decide, hinX7, tyX7_ok, nmX7, gws_in 267 (by decide +kernel) (by decide +kernel), (fun _ => ⟨rfl, rfl⟩), (fun h => absurd h (by decide)), (fun h => absurd h (by decide))⟩
theorem flX11_164 : FL RX11 164 0 4 := ⟨RX0, TX0, 14, tyX0, rfl, by decide, hinX0, tyX0_ok, nmX0, gws_in 143 (by decide +kernel) (by decide +kernel), (fun h => absurd h (by decide)), (fun h => absurd h (by decide)), (fun h => absurd h (by decide))⟩
theorem flX11_167 : FL RX11 167 0 5 := ⟨RX0, TX0, 14, tyX0, rfl, by decide, hinX0, tyX0_ok, nmX0, gws_in 147 (by decide +kernel) (by decide +kernel), (fun h => absurd h (by decide)), (fun h => absurd h (by decide)), (fun h => absurd h (by decide))⟩
theorem flX11_170 : FL RX11 170 0 6 := ⟨RX0, TX0, 14, tyX0, rfl, by decide, hinX0, tyX0_ok, nmX0, gws_in 150 (by decide +kernel) (by decide +kernel), (fun h => absurd h (by decide)), (fun h => absurd h (by decide)), (fun h => absurd h (by decide))⟩
theorem flX11_197 : FL RX11 197 0 8 := ⟨RX0, TX0, 14, tyX0, rfl, by decide, hinX0, tyX0_ok, nmX0, gws_in 158 (by decide +kernel) (by decide +kernel), (fun h => absurd h (by decide)), (fun h => absurd h (by decide)), (fun h => absurd h (by decide))⟩
theorem flX11_200 : FL RX11 200 0 9 := ⟨RX0, TX0, 14, tyX0, rfl, by decide, hinX0, tyX0_ok, nmX0, gws_in 160 (by decide +kernel) (by decide +kernel), (fun h => absurd h (by decide)), (fun h => absurd h (by decide)), (fun h => absurd h (by decide))⟩
theorem flX11_203 : FL RX11 203 0 10 := ⟨RX0, TX0, 14, tyX0, rfl, by decide, hinX0, tyX0_ok, nmX0, gws_in 163 (by decide +kernel) (by decide +kernel), (fun h => absurd h (by decide)), (fun h => absurd h (by decide)), (fun h => absurd h (by decide))⟩
theorem flX11_206 : FL RX11 206 0 11 := ⟨RX0, TX0, 14, tyX0, rfl, by decide, hinX0, tyX0_ok, nmX0, gws_in 166 (by decide +kernel) (by decide +kernel), (fun h => absurd h (by decide)), (fun h => absurd h (by decide)), (fun h => absurd h (by decide))⟩
theorem flX11_209 : FL RX11 209 0 12 := ⟨RX0, TX0, 14, tyX0, rfl, by decide, hinX0, tyX0_ok, nmX0, gws_in 168 (by decide +kernel) (by decide +kernel), (fun h => absurd h (by decide)), (fun h => absurd h (by decide)), (fun h => absurd h (by decide))⟩
theorem flX11_223 : FL RX11 223 7 1 := ⟨RX7, TX7, 4, tyX7, rfl, by decide, hinX7, tyX7_ok, nmX7, gws_in 270 (by decide +kernel) (by decide +kernel), (fun h => absurd h (by decide)), (fun h => absurd h (by decide)), (fun h => absurd h (by decide))⟩
theorem flX11_226 : FL RX11 226 7 2 := ⟨RX7, TX7, 4, tyX7, rfl, by decide, hinX7, tyX7_ok, nmX7, gws_in 273 (by decide +kernel) (by decide +kernel), (fun h => absurd h (by decide)), (fun h => absurd h (by decide)), (fun h => absurd h (by decide))⟩
theorem flX11_229 : FL RX11 229 7 3 := ⟨RX7, TX7, 4, tyX7, rfl, by decide, hinX7, tyX7_ok, nmX7, gws_in 276 (by decide +kernel) (by decide +kernel), (fun h => absurd h (by decide)), (fun h => absurd h (by decide)), (fun h => absurd h (by decide))⟩
theorem flX11_236 : FL RX11 236 4 0 := ⟨RX4, TX4, 4, tyX4, rfl, by decide, hinX4, tyX4_ok, nmX4, gws_in 287 (by decide +kernel) (by decide +kernel), (fun h => absurd h (by decide)), (fun h => absurd h (by decide)), (fun h => absurd h (by decide))⟩
theorem flX11_240 : FL RX11 240 6 0 := ⟨RX6, TX6, 2, tyX6, rfl, by decide, hinX6, tyX6_ok, nmX6, gws_in 252 (by decide +kernel) (by decide +kernel), (fun h => absurd h (by decide)), (fun h => absurd h (by decide)), (fun h => absurd h (by decide))⟩
theorem flX11_249 : FL RX11 249 4 1 := ⟨RX4, TX4, 4, tyX4, rfl, by decide, hinX4, tyX4_ok, nmX4, gws_in 289 (by decide +kernel) (by decide +kernel), (fun h => absurd h (by decide)), (fun h => absurd h (by decide)), (fun h => absurd h (by decide))⟩
theorem flX11_252 : FL RX11 252 8 0 := ⟨RX8, TX8, 7, tyX8, rfl, by decide, hinX8, tyX8_ok, nmX8, gws_in 311 (by decide +kernel) (by decide +kernel), (fun h => absurd h (by decide)), (fun h => absurd h (by decide)), (fun h => absurd h (by decide))⟩
theorem flX11_310 : FL RX11 310 3 0 := ⟨RX3, TX3, 7, tyX3, rfl, by decide, hinX3, tyX3_ok, nmX3, gws_in 358 (by decide +kernel) (by decide +kernel), (fun _ => ⟨rfl, rfl⟩), (fun h => absurd h (by decide)), (fun h => absurd h (by decide))⟩
theorem flX11_313 : FL RX11 313 3 1 := ⟨RX3, TX3, 7, tyX3, rfl, by decide, hinX3, tyX3_ok, nmX3, gws_in 360 (by decide +kernel) (by decide +kernel), (fun _ => ⟨rfl, rfl⟩), (fun h => absurd h (by decide)), (fun h => absurd h (by decide))⟩
theorem flX11_316 : FL RX11 316 3 2 := ⟨RX3, TX3, 7, tyX3, rfl, by decide, hinX3, tyX3_ok, nmX3, gws_in 362 (by decide +kernel) (by decide +kernel), (fun _ => ⟨rfl, rfl⟩), (fun h => absurd h (by decide)), (fun h => absurd h (by decide))⟩
theorem flX11_329 : FL RX11 329 1 0 := ⟨RX1, TX1, 5, tyX1, rfl, by decide, hinX1, tyX1_ok, nmX1, gws_in 389 (by decide +kernel) (by decide +kernel), (fun _ => ⟨rfl, rfl⟩), (fun h => absurd h (by decide)), (fun h => absurd h (by decide))⟩
theorem flX11_332 : FL RX11 332 1 1 := ⟨RX1, TX1, 5, tyX1, rfl, by decide, hinX1, tyX1_ok, nmX1, gws_in 391 (by decide +kernel) (by decide +kernel), (fun h => absurd h (by decide)), (fun h => absurd h (by decide)), (fun h => absurd h (by decide))⟩
theorem flX11_351 : FL RX11 351 0 13 := ⟨RX0, TX0, 14, tyX0, rfl, by decide, hinX0, tyX0_ok, nmX0, gws_in 170 (by decide +kernel) (by decide +kernel), (fun h => absurd h (by decide)), (fun _ => ⟨rfl, rfl⟩), (fun h => absurd h (by decide))⟩
theorem flX11_354 : FL RX11 354 0 1 := ⟨RX0, TX0, 14, tyX0, rfl, by decide, hinX0, tyX0_ok, nmX0, gws_in 135 (by decide +kernel) (by decide +kernel), (fun h => absurd h (by decide)), (fun h => absurd h (by decide)), (fun h => absurd h (by decide))⟩
theorem flX0_9 : FL RX0 9 0 0 := ⟨RX0, TX0, 14, tyX0, rfl, by decide, hinX0, tyX0_ok, nmX0, gws_in 128 (by decide +kernel) (by decide +kernel), (fun _ => ⟨rfl, rfl⟩), (fun h => absurd h (by decide)), (fun h => absurd h (by decide))⟩
theorem flX0_15 : FL RX0 15 0 1 := ⟨RX0, TX0, 14, tyX0, rfl, by decide, hinX0, tyX0_ok, nmX0, gws_in 132 (by decide +kernel) (by decide +kernel), (fun h => absurd h (by decide)), (fun h => absurd h (by decide)), (fun h => absurd h (by decide))⟩
theorem flX0_19 : FL RX0 19 0 2 := ⟨RX0, TX0, 14, tyX0, rfl, by decide, hinX0, tyX0_ok, nmX0, gws_in 136 (by decide +kernel) (by decide +kernel), (fun h => absurd h (by decide)), (fun h => absurd h (by decide)), (fun h => absurd h (by decide))⟩
theorem flX0_23 : FL RX0 23 0 3 := ⟨RX0, TX0, 14, tyX0, rfl, by decide, hinX0, tyX0_ok, nmX0, gws_in 139 (by decide +kernel) (by decide +kernel), (fun h => absurd h (by decide)), (fun h => absurd h (by decide)), (fun h => absurd h (by decide))⟩
theorem flX0_26 : FL RX0 26 0 4 := ⟨RX0, TX0, 14, tyX0, rfl, by decide, hinX0, tyX0_ok, nmX0, gws_in 141 (by decide +kernel) (by decide +kernel), (fun h => absurd h (by decide)), (fun h => absurd h (by decide)), (fun h => absurd h (by decide))⟩
theorem flX0_29 : FL RX0 29 0 5 := ⟨RX0, TX0, 14, tyX0, rfl, by decide, hinX0, tyX0_ok, nmX0, gws_in 145 (by decide +kernel) (by decide +kernel), (fun h => absurd h (by decide)), (fun h => absurd h (by decide)), (fun h => absurd h (by decide))⟩
theorem flX0_32 : FL RX0 32 0 6 := ⟨RX0, TX0, 14, tyX0, rfl, by decide, hinX0, tyX0_ok, nmX0, gws_in 149 (by decide +kernel) (by decide +kernel), (fun h => absurd h (by decide)), (fun h => absurd h (by decide)), (fun h => absurd h (by decide))⟩
theorem flX0_35 : FL RX0 35 0 7 := ⟨RX0, TX0, 14, tyX0, rfl, by decide, hinX0, tyX0_ok, nmX0, gws_in 152 (by decide +kernel) (by decide +kernel), (fun _ => ⟨rfl, rfl⟩), (fun h => absurd h (by decide)), (fun h => absurd h (by decide))⟩
theorem flX0_38 : FL RX0 38 0 8 := ⟨RX0, TX0, 14, tyX0, rfl, by decide, hinX0, tyX0_ok, nmX0, gws_in 156 (by decide +kernel) (by decide +kernel), (fun h => absurd h (by decide)), (fun h => absurd h (by decide)), (fun h => absurd h (by decide))⟩
theorem flX0_41 : FL RX0 41 0 9 := ⟨RX0, TX0, 14, tyX0, rfl, by decide, hinX0, tyX0_ok, nmX0, gws_in 159 (by decide +kernel) (by decide +kernel), (fun h => absurd h (by decide)), (fun h => absurd h (by decide)), (fun h => absurd h (by decide))⟩
theorem flX0_44 : FL RX0 44 0 10 := ⟨RX0, TX0, 14, tyX0, rfl, by decide, hinX0, tyX0_ok, nmX0, gws_in 161 (by decide +kernel) (by decide +kernel), (fun h => absurd h (by decide)), (fun h => absurd h (by decide)), (fun h => absurd h (by decide))⟩
theorem flX0_47 : FL RX0 47 0 11 := ⟨RX0, TX0, 14, tyX0, rfl, by decide, hinX0, tyX0_ok, nmX0, gws_in 164 (by decide +kernel) (by decide +kernel), (fun h => absurd h (by decide)), (fun h => absurd h (by decide)), (fun h => absurd h (by decide))⟩
theorem flX0_50 : FL RX0 50 0 12 := ⟨RX0, TX0, 14, tyX0, rfl, by decide, hinX0, tyX0_ok, nmX0, gws_in 167 (by decide +kernel) (by decide +kernel), (fun h => absurd h (by decide)), (fun h => absurd h (by decide)), (fun h => absurd h (by decide))⟩
theorem flX0_54 : FL RX0 54 0 13 := ⟨RX0, TX0, 14, tyX0, rfl, by decide, hinX0, tyX0_ok, nmX0, gws_in 169 (by decide +kernel) (by decide +kernel), (fun h => absurd h (by decide)), (fun _ => ⟨rfl, rfl⟩), (fun h => absurd h (by decide))⟩
theorem flX1_9 : FL RX1 9 1 0 := ⟨RX1, TX1, 5, tyX1, rfl, by decide, hinX1, tyX1_ok, nmX1, gws_in 388 (by decide +kernel) (by decide +kernel), (fun _ => ⟨rfl, rfl⟩), (fun h => absurd h (by decide)), (fun h => absurd h (by decide))⟩
theorem flX1_15 : FL RX1 15 1 1 := ⟨RX1, TX1, 5, tyX1, rfl, by decide, hinX1, tyX1_ok, nmX1, gws_in 390 (by decide +kernel) (by decide +kernel), (fun h => absurd h (by decide)), (fun h => absurd h (by decide)), (fun h => absurd h (by decide))⟩
theorem flX1_19 : FL RX1 19 1 2 := ⟨RX1, TX1, 5, tyX1, rfl, by decide, hinX1, tyX1_ok, nmX1, gws_in 392 (by decide +kernel) (by decide +kernel), (fun h => absurd h (by decide)), (fun h => absurd h (by decide)), (fun h => absurd h (by decide))⟩
theorem flX1_22 : FL RX1 22 1 3 := ⟨RX1, TX1, 5, tyX1, rfl, by decide, hinX1, tyX1_ok, nmX1, gws_in 393 (by decide +kernel) (by decide +kernel), (fun h => absurd h (by decide)), (fun h => absurd h (by decide)), (fun h => absurd h (by decide))⟩
theorem flX1_25 : FL RX1 25 1 4 := ⟨RX1, TX1, 5, tyX1, rfl, by decide, hinX1, tyX1_ok, nmX1, gws_in 394 (by decide +kernel) (by decide +kernel), (fun h => absurd h (by decide)), (fun h => absurd h (by decide)), (fun h => absurd h (by decide))⟩
theorem flX2_9 : FL RX2 9 2 0 := ⟨RX2, TX2, 2, tyX2, rfl, by decide, hinX2, tyX2_ok, nmX2, gws_in 344 (by decide +kernel) (by decide +kernel), (fun h => absurd h (by decide)), (fun h => absurd h (by decide)), (fun h => absurd h (by decide))⟩
theorem flX2_15 : FL RX2 15 2 1 := ⟨RX2, TX2, 2, tyX2, rfl, by decide, hinX2, tyX2_ok, nmX2, gws_in 345 (by decide +kernel) (by decide +kernel), (fun h => absurd h (by decide)), (fun h => absurd h (by decide)), (fun h => absurd h (by decide))⟩
theorem flX2_18 : FL RX2 18 0 7 := ⟨RX0, TX0, 14, tyX0, rfl, by decide, hinX0, tyX0_ok, nmX0, gws_in 153 (by decide +kernel) (by decide +kernel), (fun _ => ⟨rfl, rfl⟩), (fun h => absurd h (by decide)), (fun h => absurd h (by decide))⟩
theorem flX2_24 : FL RX2 24 0 10 := ⟨RX0, TX0, 14, tyX0, rfl, by decide, hinX0, tyX0_ok, nmX0, gws_in 162 (by decide +kernel) (by decide +kernel), (fun h => absurd h (by decide)), (fun h => absurd h (by decide)), (fun h => absurd h (by decide))⟩
theorem flX2_28 : FL RX2 28 0 11 := ⟨RX0, TX0, 14, tyX0, rfl, by decide, hinX0, tyX0_ok, nmX0, gws_in 165 (by decide +kernel) (by decide +kernel), (fun h => absurd h (by decide)), (fun h => absurd h (by decide)), (fun h => absurd h (by decide))⟩
theorem flX2_31 : FL RX2 31 0 8 := ⟨RX0, TX0, 14, tyX0, rfl, by decide, hinX0, tyX0_ok, nmX0, gws_in 157 (by decide +kernel) (by decide +kernel), (fun h => absurd h (by decide)), (fun h => absurd h (by decide)), (fun h => absurd h (by decide))⟩
theorem flX3_9 : FL RX3 9 3 0 := ⟨RX3, TX3, 7, tyX3, rfl, by decide, hinX3, tyX3_ok, nmX3, gws_in 357 (by decide +kernel) (by decide +kernel), (fun _ => ⟨rfl, rfl⟩), (fun h => absurd h (by decide)), (fun h => absurd h (by decide))⟩
theorem flX3_15 : FL RX3 15 3 1 := ⟨RX3, TX3, 7, tyX3, rfl, by decide, hinX3, tyX3_ok, nmX3, gws_in 359 (by decide +kernel) (by decide +kernel), (fun _ => ⟨rfl, rfl⟩), (fun h => absurd h (by decide)), (fun h => absurd h (by decide))⟩
theorem flX3_18 : FL RX3 18 3 2 := ⟨RX3, TX3, 7, tyX3, rfl, by decide, hinX3, tyX3_ok, nmX3, gws_in 361 (by decide +kernel) (by decide +kernel), (fun _ => ⟨rfl, rfl⟩), (fun h => absurd h (by decide)), (fun h => absurd h (by decide))⟩
theorem flX3_21 : FL RX3 21 3 3 := ⟨RX3, TX3, 7, tyX3, rfl, by decide, hinX3, tyX3_ok, nmX3, gws_in 363 (by decide +kernel) (by decide +kernel), (fun _ => ⟨rfl, rfl⟩), (fun h => absurd h (by decide)), (fun h => absurd h (by decide))⟩
theorem flX3_24 : FL RX3 24 3 4 := ⟨RX3, TX3, 7, tyX3, rfl, by decide, hinX3, tyX3_ok, nmX3, gws_in 364 (by decide +kernel) (by decide +kernel), (fun h => absurd h (by decide)), (fun h => absurd h (by decide)), (fun h => absurd h (by decide))⟩
theorem flX3_28 : FL RX3 28 3 5 := ⟨RX3, TX3, 7, tyX3, rfl, by decide, hinX3, tyX3_ok, nmX3, gws_in 365 (by decide +kernel) (by decide +kernel), (fun h => absurd h (by decide)), (fun h => absurd h (by decide)), (fun h => absurd h (by decide))⟩
theorem flX3_31 : FL RX3 31 3 6 := ⟨RX3, TX3, 7, tyX3, rfl, by decide, hinX3, tyX3_ok, nmX3, gws_in 366 (by decide +kernel) (by decide +kernel), (fun h => absurd h (by decide)), (fun h => absurd h (by decide)), (fun h => absurd h (by decide))⟩
theorem flX3_40 : FL RX3 40 0 0 := ⟨RX0, TX0, 14, tyX0, rfl, by decide, hinX0, tyX0_ok, nmX0, gws_in 129 (by decide +kernel) (by decide +kernel), (fun _ => ⟨rfl, rfl⟩), (fun h => absurd h (by decide)), (fun h => absurd h (by decide))⟩
theorem flX4_12 : FL RX4 12 4 0 := ⟨RX4, TX4, 4, tyX4, rfl, by decide, hinX4, tyX4_ok, nmX4, gws_in 286 (by decide +kernel) (by decide +kernel), (fun h => absurd h (by decide)), (fun h => absurd h (by decide)), (fun h => absurd h (by decide))⟩
theorem flX4_18 : FL RX4 18 4 1 := ⟨RX4, TX4, 4, tyX4, rfl, by decide, hinX4, tyX4_ok, nmX4, gws_in 288 (by decide +kernel) (by decide +kernel), (fun h => absurd h (by decide)), (fun h => absurd h (by decide)), (fun h => absurd h (by decide))⟩
theorem flX4_21 : FL RX4 21 4 2 := ⟨RX4, TX4, 4, tyX4, rfl, by decide, hinX4, tyX4_ok, nmX4, gws_in 290 (by decide +kernel) (by decide +kernel), (fun _ => ⟨rfl, rfl⟩), (fun h => absurd h (by decide)), (fun h => absurd h (by decide))⟩
theorem flX4_28 : FL RX4 28 4 3 := ⟨RX4, TX4, 4, tyX4, rfl, by decide, hinX4, tyX4_ok, nmX4, gws_in 291 (by decide +kernel) (by decide +kernel), (fun h => absurd h (by decide)), (fun h => absurd h (by decide)), (fun h => absurd h (by decide))⟩
theorem flX4_32 : FL RX4 32 0 1 := ⟨RX0, TX0, 14, tyX0, rfl, by decide, hinX0, tyX0_ok, nmX0, gws_in 133 (by decide +kernel) (by decide +kernel), (fun h => absurd h (by decide)), (fun h => absurd h (by decide)), (fun h => absurd h (by decide))⟩
theorem flX4_38 : FL RX4 38 0 0 := ⟨RX0, TX0, 14, tyX0, rfl, by decide, hinX0, tyX0_ok, nmX0, gws_in 130 (by decide +kernel) (by decide +kernel), (fun _ => ⟨rfl, rfl⟩), (fun h => absurd h (by decide)), (fun h => absurd h (by decide))⟩
theorem flX4_45 : FL RX4 45 0 3 := ⟨RX0, TX0, 14, tyX0, rfl, by decide, hinX0, tyX0_ok, nmX0, gws_in 140 (by decide +kernel) (by decide +kernel), (fun h => absurd h (by decide)), (fun h => absurd h (by decide)), (fun h => absurd h (by decide))⟩
theorem flX4_48 : FL RX4 48 0 2 := ⟨RX0, TX0, 14, tyX0, rfl, by decide, hinX0, tyX0_ok, nmX0, gws_in 137 (by decide +kernel) (by decide +kernel), (fun h => absurd h (by decide)), (fun h => absurd h (by decide)), (fun h => absurd h (by decide))⟩
theorem flX4_52 : FL RX4 52 8 2 := ⟨RX8, TX8, 7, tyX8, rfl, by decide, hinX8, tyX8_ok, nmX8, gws_in 315 (by decide +kernel) (by decide +kernel), (fun _ => ⟨rfl, rfl⟩), (fun h => absurd h (by decide)), (fun h => absurd h (by decide))⟩
theorem flX4_57 : FL RX4 57 0 4 := ⟨RX0, TX0, 14, tyX0, rfl, by decide, hinX0, tyX0_ok, nmX0, gws_in 142 (by decide +kernel) (by decide +kernel), (fun h => absurd h (by decide)), (fun h => absurd h (by decide)), (fun h => absurd h (by decide))⟩
theorem flX4_79 : FL RX4 79 6 0 := ⟨RX6, TX6, 2, tyX6, rfl, by decide, hinX6, tyX6_ok, nmX6, gws_in 251 (by decide +kernel) (by decide +kernel), (fun h => absurd h (by decide)), (fun h => absurd h (by decide)), (fun h => absurd h (by decide))⟩
theorem flX4_104 : FL RX4 104 0 5 := ⟨RX0, TX0, 14, tyX0, rfl, by decide, hinX0, tyX0_ok, nmX0, gws_in 146 (by decide +kernel) (by decide +kernel), (fun h => absurd h (by decide)), (fun h => absurd h (by decide)), (fun h => absurd h (by decide))⟩
theorem flX4_121 : FL RX4 121 7 0 := ⟨RX7, TX7, 4, tyX7, rfl, by decide, hinX7, tyX7_ok, nmX7, gws_in 266 (by decide +kernel) (by decide +kernel), (fun _ => ⟨rfl, rfl⟩), (fun h => absurd h (by decide)), (fun h => absurd h (by decide))⟩
theorem flX4_124 : FL RX4 124 7 1 := ⟨RX7, TX7, 4, tyX7, rfl, by decide, hinX7, tyX7_ok, nmX7, gws_in 269 (by decide +kernel) (by decide +kernel), (fun h => absurd h (by decide)), (fun h => absurd h (by decide)), (fun h => absurd h (by decide))⟩
theorem flX4_127 : FL RX4 127 7 2 := ⟨RX7, TX7, 4, tyX7, rfl, by decide, hinX7, tyX7_ok, nmX7, gws_in 272 (by decide +kernel) (by decide +kernel), (fun h => absurd h (by decide)), (fun h => absurd h (by decide)), (fun h => absurd h (by decide))⟩
theorem flX4_130 : FL RX4 130 7 3 := ⟨RX7, TX7, 4, tyX7, rfl, by decide, hinX7, tyX7_ok, nmX7, gws_in 275 (by decide +kernel) (by decide +kernel), (fun h => absurd h (by decide)), (fun h => absurd h (by decide)), (fun h => absurd h (by decide))⟩
theorem flX5_9 : FL RX5 9 5 0 := ⟨RX5, TX5, 9, tyX5, rfl, by decide, hinX5, tyX5_ok, nmX5, gws_in 204 (by decide +kernel) (by decide +kernel), (fun _ => ⟨rfl, rfl⟩), (fun h => absurd h (by decide)), (fun h => absurd h (by decide))⟩
theorem flX5_15 : FL RX5 15 5 1 := ⟨RX5, TX5, 9, tyX5, rfl, by decide, hinX5, tyX5_ok, nmX5, gws_in 206 (by decide +kernel) (by decide +kernel), (fun _ => ⟨rfl, rfl⟩), (fun h => absurd h (by decide)), (fun h => absurd h (by decide))⟩
theorem flX5_18 : FL RX5 18 5 2 := ⟨RX5, TX5, 9, tyX5, rfl, by decide, hinX5, tyX5_ok, nmX5, gws_in 208 (by decide +kernel) (by decide +kernel), (fun _ => ⟨rfl, rfl⟩), (fun h => absurd h (by decide)), (fun h => absurd h (by decide))⟩
theorem flX5_21 : FL RX5 21 5 3 := ⟨RX5, TX5, 9, tyX5, rfl, by decide, hinX5, tyX5_ok, nmX5, gws_in 210 (by decide +kernel) (by decide +kernel), (fun h => absurd h (by decide)), (fun h => absurd h (by decide)), (fun h => absurd h (by decide))⟩
theorem flX5_25 : FL RX5 25 5 4 := ⟨RX5, TX5, 9, tyX5, rfl, by decide, hinX5, tyX5_ok, nmX5, gws_in 211 (by decide +kernel) (by decide +kernel), (fun _ => ⟨rfl, rfl⟩), (fun h => absurd h (by decide)), (fun h => absurd h (by decide))⟩
theorem flX5_31 : FL RX5 31 5 5 := ⟨RX5, TX5, 9, tyX5, rfl, by decide, hinX5, tyX5_ok, nmX5, gws_in 212 (by decide +kernel) (by decide +kernel), (fun h => absurd h (by decide)), (fun h => absurd h (by decide)), (fun _ => ⟨⟨_, rfl⟩, rfl⟩)⟩
theorem flX5_35 : FL RX5 35 5 6 := ⟨RX5, TX5, 9, tyX5, rfl, by decide, hinX5, tyX5_ok, nmX5, gws_in 213 (by decide +kernel) (by decide +kernel), (fun _ => ⟨rfl, rfl⟩), (fun h => absurd h (by decide)), (fun h => absurd h (by decide))⟩
theorem flX5_38 : FL RX5 38 5 7 := ⟨RX5, TX5, 9, tyX5, rfl, by decide, hinX5, tyX5_ok, nmX5, gws_in 214 (by decide +kernel) (by decide +kernel), (fun _ => ⟨rfl, rfl⟩), (fun h => absurd h (by decide)), (fun h => absurd h (by decide))⟩
theorem flX5_41 : FL RX5 41 5 8 := ⟨RX5, TX5, 9, tyX5, rfl, by decide, hinX5, tyX5_ok, nmX5, gws_in 215 (by decide +kernel) (by decide +kernel), (fun _ => ⟨rfl, rfl⟩), (fun h => absurd h (by decide)), (fun h => absurd h (by decide))⟩
theorem flX5_104 : FL RX5 104 0 7 := ⟨RX0, TX0, 14, tyX0, rfl, by decide, hinX0, tyX0_ok, nmX0, gws_in 155 (by decide +kernel) (by decide +kernel), (fun _ => ⟨rfl, rfl⟩), (fun h => absurd h (by decide)), (fun h => absurd h (by decide))⟩
theorem flX5_130 : FL RX5 130 0 4 := ⟨RX0, TX0, 14, tyX0, rfl, by decide, hinX0, tyX0_ok, nmX0, gws_in 144 (by decide +kernel) (by decide +kernel), (fun h => absurd h (by decide)), (fun h => absurd h (by decide)), (fun h => absurd h (by decide))⟩
theorem flX5_136 : FL RX5 136 0 5 := ⟨RX0, TX0, 14, tyX0, rfl, by decide, hinX0, tyX0_ok, nmX0, gws_in 148 (by decide +kernel) (by decide +kernel), (fun h => absurd h (by decide)), (fun h => absurd h (by decide)), (fun h => absurd h (by decide))⟩
theorem flX5_142 : FL RX5 142 0 6 := ⟨RX0, TX0, 14, tyX0, rfl, by decide, hinX0, tyX0_ok, nmX0, gws_in 151 (by decide +kernel) (by decide +kernel), (fun h => absurd h (by decide)), (fun h => absurd h (by decide)), (fun h => absurd h (by decide))⟩
theorem flX5_145 : FL RX5 145 0 1 := ⟨RX0, TX0, 14, tyX0, rfl, by decide, hinX0, tyX0_ok, nmX0, gws_in 134 (by decide +kernel) (by decide +kernel), (fun h => absurd h (by decide)), (fun h => absurd h (by decide)), (fun h => absurd h (by decide))⟩
theorem flX6_9 : FL RX6 9 6 0 := ⟨RX6, TX6, 2, tyX6, rfl, by decide, hinX6, tyX6_ok, nmX6, gws_in 250 (by decide +kernel) (by decide +kernel), (fun h => absurd h (by decide)), (fun h => absurd h (by decide)), (fun h => absurd h (by decide))⟩
theorem flX6_15 : FL RX6 15 6 1 := ⟨RX6, TX6, 2, tyX6, rfl, by decide, hinX6, tyX6_ok, nmX6, gws_in 253 (by decide +kernel) (by decide +kernel), (fun h => absurd h (by decide)), (fun h => absurd h (by decide)), (fun h => absurd h (by decide))⟩
theorem flX7_9 : FL RX7 9 7 0 := ⟨RX7, TX7, 4, tyX7, rfl, by decide, hinX7, tyX7_ok, nmX7, gws_in 265 (by decide +kernel) (by decide +kernel), (fun _ => ⟨rfl, rfl⟩), (fun h => absurd h (by decide)), (fun h => absurd h (by decide))⟩
theorem flX7_15 : FL RX7 15 7 1 := ⟨RX7, TX7, 4, tyX7, rfl, by decide, hinX7, tyX7_ok, nmX7, gws_in 268 (by decide +kernel) (by decide +kernel), (fun h => absurd h (by decide)), (fun h => absurd h (by decide)), (fun h => absurd h (by decide))⟩
theorem flX7_19 : FL RX7 19 7 2 := ⟨RX7, TX7, 4, tyX7, rfl, by decide, hinX7, tyX7_ok, nmX7, gws_in 271 (by decide +kernel) (by decide +kernel), (fun h => absurd h (by decide)), (fun h => absurd h (by decide)), (fun h => absurd h (by decide))⟩
theorem flX7_22 : FL RX7 22 7 3 := ⟨RX7, TX7, 4, tyX7, rfl, by decide, hinX7, tyX7_ok, nmX7, gws_in 274 (by decide +kernel) (by decide +kernel), (fun h => absurd h (by decide)), (fun h => absurd h (by decide)), (fun h => absurd h (by decide))⟩
theorem flX8_7 : FL RX8 7 8 1 := ⟨RX8, TX8, 7, tyX8, rfl, by decide, hinX8, tyX8_ok, nmX8, gws_in 312 (by decide +kernel) (by decide +kernel), (fun _ => ⟨rfl, rfl⟩), (fun h => absurd h (by decide)), (fun h => absurd h (by decide))⟩
theorem flX8_13 : FL RX8 13 8 2 := ⟨RX8, TX8, 7, tyX8, rfl, by decide, hinX8, tyX8_ok, nmX8, gws_in 314 (by decide +kernel) (by decide +kernel), (fun _ => ⟨rfl, rfl⟩), (fun h => absurd h (by decide)), (fun h => absurd h (by decide))⟩
theorem flX8_16 : FL RX8 16 8 3 := ⟨RX8, TX8, 7, tyX8, rfl, by decide, hinX8, tyX8_ok, nmX8, gws_in 317 (by decide +kernel) (by decide +kernel), (fun _ => ⟨rfl, rfl⟩), (fun h => absurd h (by decide)), (fun h => absurd h (by decide))⟩
theorem flX8_19 : FL RX8 19 8 4 := ⟨RX8, TX8, 7, tyX8, rfl, by decide, hinX8, tyX8_ok, nmX8, gws_in 318 (by decide +kernel) (by decide +kernel), (fun _ => ⟨rfl, rfl⟩), (fun h => absurd h (by decide)), (fun h => absurd h (by decide))⟩
theorem flX8_22 : FL RX8 22 8 5 := ⟨RX8, TX8, 7, tyX8, rfl, by decide, hinX8, tyX8_ok, nmX8, gws_in 319 (by decide +kernel) (by decide +kernel), (fun h => absurd h (by decide)), (fun h => absurd h (by decide)), (fun h => absurd h (by decide))⟩
theorem flX8_26 : FL RX8 26 8 6 := ⟨RX8, TX8, 7, tyX8, rfl, by decide, hinX8, tyX8_ok, nmX8, gws_in 320 (by decide +kernel) (by decide +kernel), (fun _ => ⟨rfl, rfl⟩), (fun h => absurd h (by decide)), (fun h => absurd h (by decide))⟩
theorem flX8_35 : FL RX8 35 8 0 := ⟨RX8, TX8, 7, tyX8, rfl, by decide, hinX8, tyX8_ok, nmX8, gws_in 310 (by decide +kernel) (by decide +kernel), (fun h => absurd h (by decide)), (fun h => absurd h (by decide)), (fun h => absurd h (by decide))⟩
theorem flX9_11 : FL RX9 11 9 0 := ⟨RX9, TX9, 4, tyX9, rfl, by decide, hinX9, tyX9_ok, nmX9, gws_in 412 (by decide +kernel) (by decide +kernel), (fun _ => ⟨rfl, rfl⟩), (fun h => absurd h (by decide)), (fun h => absurd h (by decide))⟩
theorem flX9_15 : FL RX9 15 9 1 := ⟨RX9, TX9, 4, tyX9, rfl, by decide, hinX9, tyX9_ok, nmX9, gws_in 414 (by decide +kernel) (by decide +kernel), (fun h => absurd h (by decide)), (fun h => absurd h (by decide)), (fun h => absurd h (by decide))⟩
theorem flX9_19 : FL RX9 19 9 2 := ⟨RX9, TX9, 4, tyX9, rfl, by decide, hinX9, tyX9_ok, nmX9, gws_in 415 (by decide +kernel) (by decide +kernel), (fun h => absurd h (by decide)), (fun h => absurd h (by decide)), (fun h => absurd h (by decide))⟩
theorem flX9_22 : FL RX9 22 9 3 := ⟨RX9, TX9, 4, tyX9, rfl, by decide, hinX9, tyX9_ok, nmX9, gws_in 416 (by decide +kernel) (by decide +kernel), (fun h => absurd h (by decide)), (fun h => absurd h (by decide)), (fun h => absurd h (by decide))⟩
theorem flX12_7 : FL RX12 7 11 1 := ⟨RX12, TX12, 67, tyX12, rfl, by decide, hinX12, tyX12_ok, nmX12, gws_in 1177 (by decide +kernel) (by decide +kernel), (fun h => absurd h (by decide)), (fun h => absurd h (by decide)), (fun h => absurd h (by decide))⟩
theorem flX12_13 : FL RX12 13 11 2 := ⟨RX12, TX12, 67, tyX12, rfl, by decide, hinX12, tyX12_ok, nmX12, gws_in 1178 (by decide +kernel) (by decide +kernel), (fun h => absurd h (by decide)), (fun h => absurd h (by decide)), (fun h => absurd h (by decide))⟩
theorem flX12_16 : FL RX12 16 11 3 := ⟨RX12, TX12, 67, tyX12, rfl, by decide, hinX12, tyX12_ok, nmX12, gws_in 1179 (by decide +kernel) (by decide +kernel), (fun h => absurd h (by decide)), (fun h => absurd h (by decide)), (fun h => absurd h (by decide))⟩
theorem flX12_19 : FL RX12 19 11 4 := ⟨RX12, TX12, 67, tyX12, rfl, by decide, hinX12, tyX12_ok, nmX12, gws_in 1180 (by decide +kernel) (by decide +kernel), (fun h => absurd h (by decide)), (fun h => absurd h (by decide)), (fun h => absurd h (by decide))⟩
theorem flX12_22 : FL RX12 22 11 5 := ⟨RX12, TX12, 67, tyX12, rfl, by decide, hinX12, tyX12_ok, nmX12, gws_in 1181 (by decide +kernel) (by decide +kernel), (fun h => absurd h (by decide)), (fun h => absurd h (by decide)), (fun h => absurd h (by decide))⟩
theorem flX12_25 : FL RX12 25 11 6 := ⟨RX12, TX12, 67, tyX12, rfl, by decide, hinX12, tyX12_ok, nmX12, gws_in 1182 (by decide +kernel) (by decide +kernel), (fun h => absurd h (by decide)), (fun h => absurd h (by decide)), (fun h => absurd h (by decide))⟩
theorem flX12_28 : FL RX12 28 11 8 := ⟨RX12, TX12, 67, tyX12, rfl, by decide, hinX12, tyX12_ok, nmX12, gws_in 1184 (by decide +kernel) (by decide +kernel), (fun h => absurd h (by decide)), (fun h => absurd h (by decide)), (fun h => absurd h (by decide))⟩
theorem flX12_31 : FL RX12 31 11 9 := ⟨RX12, TX12, 67, tyX12, rfl, by decide, hinX12, tyX12_ok, nmX12, gws_in 1185 (by decide +kernel) (by decide +kernel), (fun h => absurd h (by decide)), (fun h => absurd h (by decide)), (fun h => absurd h (by decide))⟩
theorem flX12_34 : FL RX12 34 11 10 := ⟨RX12, TX12, 67, tyX12, rfl, by decide, hinX12, tyX12_ok, nmX12, gws_in 1186 (by decide +kernel) (by decide +kernel), (fun h => absurd h (by decide)), (fun h => absurd h (by decide)), (fun h => absurd h (by decide))⟩
theorem flX12_37 : FL RX12 37 11 11 := ⟨RX12, TX12, 67, tyX12, rfl, by decide, hinX12, tyX12_ok, nmX12, gws_in 1187 (by decide +kernel) (by decide +kernel), (fun h => absurd h (by decide)), (fun h => absurd h (by decide)), (fun h => absurd h (by decide))⟩
theorem flX12_40 : FL RX12 40 11 12 := ⟨RX12, TX12, 67, tyX12, rfl, by decide, hinX12, tyX12_ok, nmX12, gws_in 1188 (by decide +kernel) (by decide +kernel), (fun h => absurd h (by decide)), (fun h => absurd h (by decide)), (fun h => absurd h (by decide))⟩
theorem flX12_44 : FL RX12 44 11 13 := ⟨RX12, TX12, 67, tyX12, rfl, by decide, hinX12, tyX12_ok, nmX12, gws_in 1189 (by decide +kernel) (by decide +kernel), (fun h => absurd h (by decide)), (fun h => absurd h (by decide)), (fun h => absurd h (by decide))⟩
theorem flX12_47 : FL RX12 47 11 19 := ⟨RX12, TX12, 67, tyX12, rfl, by decide, hinX12, tyX12_ok, nmX12, gws_in 1195 (by decide +kernel) (by decide +kernel), (fun _ => ⟨rfl, rfl⟩), (fun h => absurd h (by decide)), (fun h => absurd h (by decide))⟩
theorem flX12_51 : FL RX12 51 11 23 := ⟨RX12, TX12, 67, tyX12, rfl, by decide, hinX12, tyX12_ok, nmX12, gws_in 1199 (by decide +kernel) (by decide +kernel), (fun h => absurd h (by decide)), (fun h => absurd h (by decide)), (fun h => absurd h (by decide))⟩
theorem flX12_54 : FL RX12 54 11 28 := ⟨RX12, TX12, 67, tyX12, rfl, by decide, hinX12, tyX12_ok, nmX12, gws_in 1204 (by decide +kernel) (by decide +kernel), (fun _ => ⟨rfl, rfl⟩), (fun h => absurd h (by decide)), (fun h => absurd h (by decide))⟩
theorem flX12_57 : FL RX12 57 11 29 := ⟨RX12, TX12, 67, tyX12, rfl, by decide, hinX12, tyX12_ok, nmX12, gws_in 1205 (by decide +kernel) (by decide +kernel), (fun h => absurd h (by decide)), (fun h => absurd h (by decide)), (fun h => absurd h (by decide))⟩
theorem flX12_60 : FL RX12 60 11 30 := ⟨RX12, TX12, 67, tyX12, rfl, by decide, hinX12, tyX12_ok, nmX12, gws_in 1206 (by decide +kernel) (by decide +kernel), (fun h => absurd h (by decide)), (fun h => absurd h (by decide)), (fun h => absurd h (by decide))⟩
theorem flX12_63 : FL RX12 63 11 34 := ⟨RX12, TX12, 67, tyX12, rfl, by decide, hinX12, tyX12_ok, nmX12, gws_in 1210 (by decide +kernel) (by decide +kernel), (fun h => absurd h (by decide)), (fun h => absurd h (by decide)), (fun h => absurd h (by decide))⟩
theorem flX12_66 : FL RX12 66 11 37 := ⟨RX12, TX12, 67, tyX12, rfl, by decide, hinX12, tyX12_ok, nmX12, gws_in 1213 (by decide +kernel) (by decide +kernel), (fun h => absurd h (by decide)), (fun h => absurd h (by decide)), (fun h => absurd h (by decide))⟩
theorem flX12_69 : FL RX12 69 11 41 := ⟨RX12, TX12, 67, tyX12, rfl, by decide, hinX12, tyX12_ok, nmX12, gws_in 1217 (by decide +kernel) (by decide +kernel), (fun h => absurd h (by decide)), (fun h => absurd h (by decide)), (fun h => absurd h (by decide))⟩
theorem flX12_72 : FL RX12 72 11 42 := ⟨RX12, TX12, 67, tyX12, rfl, by decide, hinX12, tyX12_ok, nmX12, gws_in 1218 (by decide +kernel) (by decide +kernel), (fun h => absurd h (by decide)), (fun h => absurd h (by decide)), (fun h => absurd h (by decide))⟩
theorem flX12_75 : FL RX12 75 11 43 := ⟨RX12, TX12, 67, tyX12, rfl, by decide, hinX12, tyX12_ok, nmX12, gws_in 1219 (by decide +kernel) (by decide +kernel), (fun h => absurd h (by decide)), (fun h => absurd h (by decide)), (fun h => absurd h (by decide))⟩
theorem flX12_78 : FL RX12 78 11 44 := ⟨RX12, TX12, 67, tyX12, rfl, by decide, hinX12, tyX12_ok, nmX12, gws_in 1220 (by decide +kernel) (by decide +kernel), (fun h => absurd h (by decide)), (fun h => absurd h (by decide)), (fun h => absurd h (by decide))⟩
theorem flX12_81 : FL RX12 81 11 45 := ⟨RX12, TX12, 67, tyX12, rfl, by decide, hinX12, tyX12_ok, nmX12, gws_in 1221 (by decide +kernel) (by decide +kernel), (fun h => absurd h (by decide)), (fun h => absurd h (by decide)), (fun h => absurd h (by decide))⟩
theorem flX12_84 : FL RX12 84 11 46 := ⟨RX12, TX12, 67, tyX12, rfl, by decide, hinX12, tyX12_ok, nmX12, gws_in 1222 (by decide +kernel) (by decide +kernel), (fun h => absurd h (by decide)), (fun h => absurd h (by decide)), (fun h => absurd h (by decide))⟩
theorem flX12_87 : FL RX12 87 11 48 := ⟨RX12, TX12, 67, tyX12, rfl, by decide, hinX12, tyX12_ok, nmX12, gws_in 1224 (by decide +kernel) (by decide +kernel), (fun h => absurd h (by decide)), (fun h => absurd h (by decide)), (fun h => absurd h (by decide))⟩
theorem flX12_90 : FL RX12 90 11 49 := ⟨RX12, TX12, 67, tyX12, rfl, by decide, hinX12, tyX12_ok, nmX12, gws_in 1225 (by decide +kernel) (by decide +kernel), (fun h => absurd h (by decide)), (fun h => absurd h (by decide)), (fun h => absurd h (by decide))⟩
theorem flX12_93 : FL RX12 93 11 50 := ⟨RX12, TX12, 67, tyX12, rfl, by decide, hinX12, tyX12_ok, nmX12, gws_in 1226 (by decide +kernel) (by decide +kernel), (fun h => absurd h (by decide)), (fun h => absurd h (by decide)), (fun h => absurd h (by decide))⟩
theorem flX12_96 : FL RX12 96 11 51 := ⟨RX12, TX12, 67, tyX12, rfl, by decide, hinX12, tyX12_ok, nmX12, gws_in 1227 (by decide +kernel) (by decide +kernel), (fun h => absurd h (by decide)), (fun h => absurd h (by decide)), (fun h => absurd h (by decide))⟩
theorem flX12_99 : FL RX12 99 11 52 := ⟨RX12, TX12, 67, tyX12, rfl, by decide, hinX12, tyX12_ok, nmX12, gws_in 1228 (by decide +kernel) (by decide +kernel), (fun h => absurd h (by decide)), (fun h => absurd h (by decide)), (fun h => absurd h (by decide))⟩
theorem flX12_102 : FL RX12 102 11 53 := ⟨RX12, TX12, 67, tyX12, rfl, by decide, hinX12, tyX12_ok, nmX12, gws_in 1229 (by decide +kernel) (by decide +kernel), (fun h => absurd h (by decide)), (fun h => absurd h (by decide)), (fun h => absurd h (by decide))⟩
theorem flX12_105 : FL RX12 105 11 54 := ⟨RX12, TX12, 67, tyX12, rfl, by decide, hinX12, tyX12_ok, nmX12, gws_in 1230 (by decide +kernel) (by decide +kernel), (fun h => absurd h (by decide)), (fun h => absurd h (by decide)), (fun h => absurd h (by decide))⟩
theorem flX12_108 : FL RX12 108 11 55 := ⟨RX12, TX12, 67, tyX12, rfl, by decide, hinX12, tyX12_ok, nmX12, gws_in 1231 (by decide +kernel) (by decide +kernel), (fun h => absurd h (by decide)), (fun h => absurd h (by decide)), (fun h => absurd h (by decide))⟩
theorem flX12_111 : FL RX12 111 11 56 := ⟨RX12, TX12, 67, tyX12, rfl, by decide, hinX12, tyX12_ok, nmX12, gws_in 1232 (by decide +kernel) (by decide +kernel), (fun h => absurd h (by decide)), (fun h => absurd h (by decide)), (fun h => absurd h (by decide))⟩
theorem flX12_114 : FL RX12 114 11 57 := ⟨RX12, TX12, 67, tyX12, rfl, by decide, hinX12, tyX12_ok, nmX12, gws_in 1233 (by decide +kernel) (by decide +kernel), (fun h => absurd h (by decide)), (fun h => absurd h (by decide)), (fun h => absurd h (by decide))⟩
theorem flX12_117 : FL RX12 117 11 58 := ⟨RX12, TX12, 67, tyX12, rfl, by decide, hinX12, tyX12_ok, nmX12, gws_in 1234 (by decide +kernel) (by decide +kernel), (fun h => absurd h (by decide)), (fun h => absurd h (by decide)), (fun h => absurd h (by decide))⟩
theorem flX12_120 : FL RX12 120 11 59 := ⟨RX12, TX12, 67, tyX12, rfl, by decide, hinX12, tyX12_ok, nmX12, gws_in 1235 (by decide +kernel) (by decide +kernel), (fun h => absurd h (by decide)), (fun h => absurd h (by decide)), (fun h => absurd h (by decide))⟩
theorem flX12_123 : FL RX12 123 11 60 := ⟨RX12, TX12, 67, tyX12, rfl, by decide, hinX12, tyX12_ok, nmX12, gws_in 1236 (by decide +kernel) (by decide +kernel), (fun h => absurd h (by decide)), (fun h => absurd h (by decide)), (fun h => absurd h (by decide))⟩
theorem flX12_126 : FL RX12 126 11 61 := ⟨RX12, TX12, 67, tyX12, rfl, by decide, hinX12, tyX12_ok, nmX12, gws_in 1237 (by decide +kernel) (by decide +kernel), (fun h => absurd h (by decide)), (fun h => absurd h (by decide)), (fun h => absurd h (by decide))⟩
theorem flX12_129 : FL RX12 129 11 62 := ⟨RX12, TX12, 67, tyX12, rfl, by decide, hinX12, tyX12_ok, nmX12, gws_in 1238 (by decide +kernel) (by decide +kernel), (fun h => absurd h (by decide)), (fun h => absurd h (by decide)), (fun h => absurd h (by decide))⟩
theorem flX12_132 : FL RX12 132 11 63 := ⟨RX12, TX12, 67, tyX12, rfl, by decide, hinX12, tyX12_ok, nmX12, gws_in 1239 (by decide +kernel) (by decide +kernel), (fun h => absurd h (by decide)), (fun h => absurd h (by decide)), (fun h => absurd h (by decide))⟩
theorem flX12_135 : FL RX12 135 11 64 := ⟨RX12, TX12, 67, tyX12, rfl, by decide, hinX12, tyX12_ok, nmX12, gws_in 1240 (by decide +kernel) (by decide +kernel), (fun h => absurd h (by decide)), (fun h => absurd h (by decide)), (fun h => absurd h (by decide))⟩
theorem flX12_138 : FL RX12 138 11 65 := ⟨RX12, TX12, 67, tyX12, rfl, by decide, hinX12, tyX12_ok, nmX12, gws_in 1241 (by decide +kernel) (by decide +kernel), (fun h => absurd h (by decide)), (fun h => absurd h (by decide)), (fun h => absurd h (by decide))⟩
theorem flX12_141 : FL RX12 141 11 66 := ⟨RX12, TX12, 67, tyX12, rfl, by decide, hinX12, tyX12_ok, nmX12, gws_in 1242 (by decide +kernel) (by decide +kernel), (fun h => absurd h (by decide)), (fun h => absurd h (by decide)), (fun h => absurd h (by decide))⟩
theorem flX12_150 : FL RX12 150 11 14 := ⟨RX12, TX12, 67, tyX12, rfl, by decide, hinX12, tyX12_ok, nmX12, gws_in 1190 (by decide +kernel) (by decide +kernel), (fun _ => ⟨rfl, rfl⟩), (fun h => absurd h (by decide)), (fun h => absurd h (by decide))⟩
theorem flX12_155 : FL RX12 155 11 15 := ⟨RX12, TX12, 67, tyX12, rfl, by decide, hinX12, tyX12_ok, nmX12, gws_in 1191 (by decide +kernel) (by decide +kernel), (fun _ => ⟨rfl, rfl⟩), (fun h => absurd h (by decide)), (fun h => absurd h (by decide))⟩
theorem flX12_158 : FL RX12 158 11 18 := ⟨RX12, TX12, 67, tyX12, rfl, by decide, hinX12, tyX12_ok, nmX12, gws_in 1194 (by decide +kernel) (by decide +kernel), (fun _ => ⟨rfl, rfl⟩), (fun h => absurd h (by decide)), (fun h => absurd h (by decide))⟩
theorem flX12_169 : FL RX12 169 11 16 := ⟨RX12, TX12, 67, tyX12, rfl, by decide, hinX12, tyX12_ok, nmX12, gws_in 1192 (by decide +kernel) (by decide +kernel), (fun _ => ⟨rfl, rfl⟩), (fun h => absurd h (by decide)), (fun h => absurd h (by decide))⟩
theorem flX12_176 : FL RX12 176 11 17 := ⟨RX12, TX12, 67, tyX12, rfl, by decide, hinX12, tyX12_ok, nmX12, gws_in 1193 (by decide +kernel) (by decide +kernel), (fun _ => ⟨rfl, rfl⟩), (fun h => absurd h (by decide)), (fun h => absurd h (by decide))⟩
theorem flX12_192 : FL RX12 192 11 0 := ⟨RX12, TX12, 67, tyX12, rfl, by decide, hinX12, tyX12_ok, nmX12, gws_in 1176 (by decide +kernel) (by decide +kernel), (fun _ => ⟨rfl, rfl⟩), (fun h => absurd h (by decide)), (fun h => absurd h (by decide))⟩
theorem flX12_210 : FL RX12 210 11 7 := ⟨RX12, TX12, 67, tyX12, rfl, by decide, hinX12, tyX12_ok, nmX12, gws_in 1183 (by decide +kernel) (by decide +kernel), (fun _ => ⟨rfl, rfl⟩), (fun h => absurd h (by decide)), (fun h => absurd h (by decide))⟩
theorem flX12_231 : FL RX12 231 11 20 := ⟨RX12, TX12, 67, tyX12, rfl, by decide, hinX12, tyX12_ok, nmX12, gws_in 1196 (by decide +kernel) (by decide +kernel), (fun _ => ⟨rfl, rfl⟩), (fun h => absurd h (by decide)), (fun h => absurd h (by decide))⟩
theorem flX12_234 : FL RX12 234 11 21 := ⟨RX12, TX12, 67, tyX12, rfl, by decide, hinX12, tyX12_ok, nmX12, gws_in 1197 (by decide +kernel) (by decide +kernel), (fun _ => ⟨rfl, rfl⟩), (fun h => absurd h (by decide)), (fun h => absurd h (by decide))⟩
theorem flX12_241 : FL RX12 241 11 22 := ⟨RX12, TX12, 67, tyX12, rfl, by decide, hinX12, tyX12_ok, nmX12, gws_in 1198 (by decide +kernel) (by decide +kernel), (fun _ => ⟨rfl, rfl⟩), (fun h => absurd h (by decide)), (fun h => absurd h (by decide))⟩
theorem flX12_281 : FL RX12 281 11 47 := ⟨RX12, TX12, 67, tyX12, rfl, by decide, hinX12, tyX12_ok, nmX12, gws_in 1223 (by decide +kernel) (by decide +kernel), (fun _ => ⟨rfl, rfl⟩), (fun h => absurd h (by decide)), (fun h => absurd h (by decide))⟩
theorem flX12_317 : FL RX12 317 11 24 := ⟨RX12, TX12, 67, tyX12, rfl, by decide, hinX12, tyX12_ok, nmX12, gws_in 1200 (by decide +kernel) (by decide +kernel), (fun _ => ⟨rfl, rfl⟩), (fun h => absurd h (by decide)), (fun h => absurd h (by decide))⟩
theorem flX12_320 : FL RX12 320 11 25 := ⟨RX12, TX12, 67, tyX12, rfl, by decide, hinX12, tyX12_ok, nmX12, gws_in 1201 (by decide +kernel) (by decide +kernel), (fun _ => ⟨rfl, rfl⟩), (fun h => absurd h (by decide)), (fun h => absurd h (by decide))⟩
theorem flX12_323 : FL RX12 323 11 26 := ⟨RX12, TX12, 67, tyX12, rfl, by decide, hinX12, tyX12_ok, nmX12, gws_in 1202 (by decide +kernel) (by decide +kernel), (fun h => absurd h (by decide)), (fun _ => ⟨rfl, rfl⟩), (fun h => absurd h (by decide))⟩
theorem flX12_332 : FL RX12 332 11 27 := ⟨RX12, TX12, 67, tyX12, rfl, by decide, hinX12, tyX12_ok, nmX12, gws_in 1203 (by decide +kernel) (by decide +kernel), (fun _ => ⟨rfl, rfl⟩), (fun h => absurd h (by decide)), (fun h => absurd h (by decide))⟩
theorem flX12_355 : FL RX12 355 11 31 := ⟨RX12, TX12, 67, tyX12, rfl, by decide, hinX12, tyX12_ok, nmX12, gws_in 1207 (by decide +kernel) (by decide +kernel), (fun _ => ⟨rfl, rfl⟩), (fun h => absurd h (by decide)), (fun h => absurd h (by decide))⟩
theorem flX12_358 : FL RX12 358 11 32 := ⟨RX12, TX12, 67, tyX12, rfl, by decide, hinX12, tyX12_ok, nmX12, gws_in 1208 (by decide +kernel) (by decide +kernel), (fun _ => ⟨rfl, rfl⟩), (fun h => absurd h (by decide)), (fun h => absurd h (by decide))⟩
theorem flX12_361 : FL RX12 361 11 35 := ⟨RX12, TX12, 67, tyX12, rfl, by decide, hinX12, tyX12_ok, nmX12, gws_in 1211 (by decide +kernel) (by decide +kernel), (fun _ => ⟨rfl, rfl⟩), (fun h => absurd h (by decide)), (fun h => absurd h (by decide))⟩
theorem flX12_367 : FL RX12 367 11 33 := ⟨RX12, TX12, 67, tyX12, rfl, by decide, hinX12, tyX12_ok, nmX12, gws_in 1209 (by decide +kernel) (by decide +kernel), (fun h => absurd h (by decide)), (fun _ => ⟨rfl, rfl⟩), (fun h => absurd h (by decide))⟩
theorem flX12_415 : FL RX12 415 11 36 := ⟨RX12, TX12, 67, tyX12, rfl, by decide, hinX12, tyX12_ok, nmX12, gws_in 1212 (by decide +kernel) (by decide +kernel), (fun _ => ⟨rfl, rfl⟩), (fun h => absurd h (by decide)), (fun h => absurd h (by decide))⟩
theorem flX12_449 : FL RX12 449 11 38 := ⟨RX12, TX12, 67, tyX12, rfl, by decide, hinX12, tyX12_ok, nmX12, gws_in 1214 (by decide +kernel) (by decide +kernel), (fun _ => ⟨rfl, rfl⟩), (fun h => absurd h (by decide)), (fun h => absurd h (by decide))⟩
theorem flX12_452 : FL RX12 452 11 39 := ⟨RX12, TX12, 67, tyX12, rfl, by decide, hinX12, tyX12_ok, nmX12, gws_in 1215 (by decide +kernel) (by decide +kernel), (fun _ => ⟨rfl, rfl⟩), (fun h => absurd h (by decide)), (fun h => absurd h (by decide))⟩
theorem flX12_455 : FL RX12 455 11 40 := ⟨RX12, TX12, 67, tyX12, rfl, by decide, hinX12, tyX12_ok, nmX12, gws_in 1216 (by decide +kernel) (by decide +kernel), (fun _ => ⟨rfl, rfl⟩), (fun h => absurd h (by decide)), (fun h => absurd h (by decide))⟩
abbrev mX0_init : Md := (yX0_init, cX0_init, 1, none, 1)
theorem caX0_init : CallA mX0_init 0 := ⟨gws_in 126 (by decide +kernel) (by decide +kernel), gws_in 89 (by decide +kernel) (by decide +kernel), (by decide +kernel), by decide⟩
abbrev mX0_clear : Md := (yX0_clear, cX0_clear, 1, none, 0)
theorem caX0_clear : CallA mX0_clear 0 := ⟨gws_in 494 (by decide +kernel) (by decide +kernel), gws_in 89 (by decide +kernel) (by decide +kernel), (by decide +kernel), by decide⟩
abbrev mX0_copyFrom : Md := (yX0_copyFrom, cX0_copyFrom, 2, none, 1)
theorem caX0_copyFrom : CallA mX0_copyFrom 1 := ⟨gws_in 1164 (by decide +kernel) (by decide +kernel), gws_in 89 (by decide +kernel) (by decide +kernel), (by decide +kernel), by decide⟩
abbrev mX0_hasHead : Md := (yX0_hasHead, cX0_hasHead, 2, (some .boolean), 0)
theorem caX0_hasHead : CallA mX0_hasHead 1 := ⟨gws_in 628 (by decide +kernel) (by decide +kernel), gws_in 89 (by decide +kernel) (by decide +kernel), (by decide +kernel), by decide⟩
abbrev mX0_hasEntry : Md := (yX0_hasEntry, cX0_hasEntry, 3, (some .boolean), 1)
theorem caX0_hasEntry : CallA mX0_hasEntry 2 := ⟨gws_in 829 (by decide +kernel) (by decide +kernel), gws_in 89 (by decide +kernel) (by decide +kernel), (by decide +kernel), by decide⟩
abbrev mX0_hasMark : Md := (yX0_hasMark, cX0_hasMark, 2, (some .boolean), 0)
theorem caX0_hasMark : CallA mX0_hasMark 1 := ⟨gws_in 840 (by decide +kernel) (by decide +kernel), gws_in 89 (by decide +kernel) (by decide +kernel), (by decide +kernel), by decide⟩
abbrev mX0_wordOf : Md := (yX0_wordOf, cX0_wordOf, 3, (some .long), 0)
theorem caX0_wordOf : CallA mX0_wordOf 2 := ⟨gws_in 793 (by decide +kernel) (by decide +kernel), gws_in 89 (by decide +kernel) (by decide +kernel), (by decide +kernel), by decide⟩
abbrev mX0_findHead : Md := (yX0_findHead, cX0_findHead, 4, (some .int), 0)
theorem caX0_findHead : CallA mX0_findHead 1 := ⟨gws_in 612 (by decide +kernel) (by decide +kernel), gws_in 89 (by decide +kernel) (by decide +kernel), (by decide +kernel), by decide⟩
abbrev mX0_findSub : Md := (yX0_findSub, cX0_findSub, 5, (some .int), 1)
theorem caX0_findSub : CallA mX0_findSub 2 := ⟨gws_in 624 (by decide +kernel) (by decide +kernel), gws_in 89 (by decide +kernel) (by decide +kernel), (by decide +kernel), by decide⟩
abbrev mX0_putHead : Md := (yX0_putHead, cX0_putHead, 3, (some .int), 0)
theorem caX0_putHead : CallA mX0_putHead 1 := ⟨gws_in 616 (by decide +kernel) (by decide +kernel), gws_in 89 (by decide +kernel) (by decide +kernel), (by decide +kernel), by decide⟩
abbrev mX0_putSub : Md := (yX0_putSub, cX0_putSub, 4, (some .int), 0)
theorem caX0_putSub : CallA mX0_putSub 2 := ⟨gws_in 632 (by decide +kernel) (by decide +kernel), gws_in 89 (by decide +kernel) (by decide +kernel), (by decide +kernel), by decide⟩
abbrev mX0_putMark : Md := (yX0_putMark, cX0_putMark, 6, (some .int), 0)
theorem caX0_putMark : CallA mX0_putMark 5 := ⟨gws_in 652 (by decide +kernel) (by decide +kernel), gws_in 89 (by decide +kernel) (by decide +kernel), (by decide +kernel), by decide⟩
abbrev mX0_removeMark : Md := (yX0_removeMark, cX0_removeMark, 3, none, 1)
theorem caX0_removeMark : CallA mX0_removeMark 1 := ⟨gws_in 856 (by decide +kernel) (by decide +kernel), gws_in 89 (by decide +kernel) (by decide +kernel), (by decide +kernel), by decide⟩
abbrev mX0_moveMark : Md := (yX0_moveMark, cX0_moveMark, 3, none, 0)
theorem caX0_moveMark : CallA mX0_moveMark 2 := ⟨gws_in 860 (by decide +kernel) (by decide +kernel), gws_in 89 (by decide +kernel) (by decide +kernel), (by decide +kernel), by decide⟩
abbrev mX0_marksOf : Md := (yX0_marksOf, cX0_marksOf, 4, (some .int), 0)
theorem caX0_marksOf : CallA mX0_marksOf 1 := ⟨gws_in 717 (by decide +kernel) (by decide +kernel), gws_in 89 (by decide +kernel) (by decide +kernel), (by decide +kernel), by decide⟩
abbrev mX0_filledHeads : Md := (yX0_filledHeads, cX0_filledHeads, 3, (some .int), 0)
theorem caX0_filledHeads : CallA mX0_filledHeads 0 := ⟨gws_in 808 (by decide +kernel) (by decide +kernel), gws_in 89 (by decide +kernel) (by decide +kernel), (by decide +kernel), by decide⟩
abbrev mX0_markedSubs : Md := (yX0_markedSubs, cX0_markedSubs, 4, (some .int), 0)
theorem caX0_markedSubs : CallA mX0_markedSubs 1 := ⟨gws_in 777 (by decide +kernel) (by decide +kernel), gws_in 89 (by decide +kernel) (by decide +kernel), (by decide +kernel), by decide⟩
abbrev mX0_gatherRuns : Md := (yX0_gatherRuns, cX0_gatherRuns, 5, none, 2)
theorem caX0_gatherRuns : CallA mX0_gatherRuns 3 := ⟨gws_in 745 (by decide +kernel) (by decide +kernel), gws_in 89 (by decide +kernel) (by decide +kernel), (by decide +kernel), by decide⟩
abbrev mX0_headsWith : Md := (yX0_headsWith, cX0_headsWith, 4, (some .int), 0)
theorem caX0_headsWith : CallA mX0_headsWith 1 := ⟨gws_in 910 (by decide +kernel) (by decide +kernel), gws_in 89 (by decide +kernel) (by decide +kernel), (by decide +kernel), by decide⟩
abbrev mX0_stepsToFilled : Md := (yX0_stepsToFilled, cX0_stepsToFilled, 5, (some .int), 1)
theorem caX0_stepsToFilled : CallA mX0_stepsToFilled 2 := ⟨gws_in 897 (by decide +kernel) (by decide +kernel), gws_in 89 (by decide +kernel) (by decide +kernel), (by decide +kernel), by decide⟩
abbrev mX0_headAfter : Md := (yX0_headAfter, cX0_headAfter, 5, (some .int), 0)
theorem caX0_headAfter : CallA mX0_headAfter 2 := ⟨gws_in 902 (by decide +kernel) (by decide +kernel), gws_in 89 (by decide +kernel) (by decide +kernel), (by decide +kernel), by decide⟩
abbrev mX0_goesRound : Md := (yX0_goesRound, cX0_goesRound, 4, (some .boolean), 0)
theorem caX0_goesRound : CallA mX0_goesRound 1 := ⟨gws_in 949 (by decide +kernel) (by decide +kernel), gws_in 89 (by decide +kernel) (by decide +kernel), (by decide +kernel), by decide⟩
abbrev mX0_oneStepOn : Md := (yX0_oneStepOn, cX0_oneStepOn, 4, (some .int), 1)
theorem caX0_oneStepOn : CallA mX0_oneStepOn 1 := ⟨gws_in 914 (by decide +kernel) (by decide +kernel), gws_in 89 (by decide +kernel) (by decide +kernel), (by decide +kernel), by decide⟩
abbrev mX0_lastPageAbove : Md := (yX0_lastPageAbove, cX0_lastPageAbove, 4, (some .int), 1)
theorem caX0_lastPageAbove : CallA mX0_lastPageAbove 1 := ⟨gws_in 1036 (by decide +kernel) (by decide +kernel), gws_in 89 (by decide +kernel) (by decide +kernel), (by decide +kernel), by decide⟩
abbrev mX0_pushPages : Md := (yX0_pushPages, cX0_pushPages, 5, (some .int), 0)
theorem caX0_pushPages : CallA mX0_pushPages 2 := ⟨gws_in 1041 (by decide +kernel) (by decide +kernel), gws_in 89 (by decide +kernel) (by decide +kernel), (by decide +kernel), by decide⟩
abbrev mX0_cutPages : Md := (yX0_cutPages, cX0_cutPages, 8, (some .int), 1)
theorem caX0_cutPages : CallA mX0_cutPages 2 := ⟨gws_in 1049 (by decide +kernel) (by decide +kernel), gws_in 89 (by decide +kernel) (by decide +kernel), (by decide +kernel), by decide⟩
abbrev mX0_subsMissing : Md := (yX0_subsMissing, cX0_subsMissing, 5, (some .int), 2)
theorem caX0_subsMissing : CallA mX0_subsMissing 2 := ⟨gws_in 1140 (by decide +kernel) (by decide +kernel), gws_in 89 (by decide +kernel) (by decide +kernel), (by decide +kernel), by decide⟩
abbrev mX0_joinMarks : Md := (yX0_joinMarks, cX0_joinMarks, 7, none, 2)
theorem caX0_joinMarks : CallA mX0_joinMarks 2 := ⟨gws_in 1146 (by decide +kernel) (by decide +kernel), gws_in 89 (by decide +kernel) (by decide +kernel), (by decide +kernel), by decide⟩
abbrev mX0_giveMarks : Md := (yX0_giveMarks, cX0_giveMarks, 6, none, 0)
theorem caX0_giveMarks : CallA mX0_giveMarks 4 := ⟨gws_in 1150 (by decide +kernel) (by decide +kernel), gws_in 89 (by decide +kernel) (by decide +kernel), (by decide +kernel), by decide⟩
abbrev mX0_joinRest : Md := (yX0_joinRest, cX0_joinRest, 3, none, 1)
theorem caX0_joinRest : CallA mX0_joinRest 2 := ⟨gws_in 1155 (by decide +kernel) (by decide +kernel), gws_in 89 (by decide +kernel) (by decide +kernel), (by decide +kernel), by decide⟩
abbrev mX1_init : Md := (yX1_init, cX1_init, 1, none, 1)
theorem caX1_init : CallA mX1_init 0 := ⟨gws_in 386 (by decide +kernel) (by decide +kernel), gws_in 97 (by decide +kernel) (by decide +kernel), (by decide +kernel), by decide⟩
abbrev mX1_clear : Md := (yX1_clear, cX1_clear, 3, none, 0)
theorem caX1_clear : CallA mX1_clear 1 := ⟨gws_in 1001 (by decide +kernel) (by decide +kernel), gws_in 97 (by decide +kernel) (by decide +kernel), (by decide +kernel), by decide⟩
abbrev mX1_offer : Md := (yX1_offer, cX1_offer, 5, none, 0)
theorem caX1_offer : CallA mX1_offer 4 := ⟨gws_in 1006 (by decide +kernel) (by decide +kernel), gws_in 97 (by decide +kernel) (by decide +kernel), (by decide +kernel), by decide⟩
abbrev mX1_choose : Md := (yX1_choose, cX1_choose, 6, none, 3)
theorem caX1_choose : CallA mX1_choose 2 := ⟨gws_in 1010 (by decide +kernel) (by decide +kernel), gws_in 97 (by decide +kernel) (by decide +kernel), (by decide +kernel), by decide⟩
abbrev mX1_mostNeeded : Md := (yX1_mostNeeded, cX1_mostNeeded, 4, (some .int), 1)
theorem caX1_mostNeeded : CallA mX1_mostNeeded 1 := ⟨gws_in 1014 (by decide +kernel) (by decide +kernel), gws_in 97 (by decide +kernel) (by decide +kernel), (by decide +kernel), by decide⟩
abbrev mX1_leastFrom : Md := (yX1_leastFrom, cX1_leastFrom, 5, (some .int), 2)
theorem caX1_leastFrom : CallA mX1_leastFrom 2 := ⟨gws_in 1020 (by decide +kernel) (by decide +kernel), gws_in 97 (by decide +kernel) (by decide +kernel), (by decide +kernel), by decide⟩
abbrev mX1_lossBy : Md := (yX1_lossBy, cX1_lossBy, 6, (some .int), 1)
theorem caX1_lossBy : CallA mX1_lossBy 3 := ⟨gws_in 1024 (by decide +kernel) (by decide +kernel), gws_in 97 (by decide +kernel) (by decide +kernel), (by decide +kernel), by decide⟩
abbrev mX1_follow : Md := (yX1_follow, cX1_follow, 6, none, 2)
theorem caX1_follow : CallA mX1_follow 2 := ⟨gws_in 1028 (by decide +kernel) (by decide +kernel), gws_in 97 (by decide +kernel) (by decide +kernel), (by decide +kernel), by decide⟩
abbrev mX2_init : Md := (yX2_init, cX2_init, 1, none, 1)
theorem caX2_init : CallA mX2_init 0 := ⟨gws_in 342 (by decide +kernel) (by decide +kernel), gws_in 95 (by decide +kernel) (by decide +kernel), (by decide +kernel), by decide⟩
abbrev mX2_gather : Md := (yX2_gather, cX2_gather, 5, none, 1)
theorem caX2_gather : CallA mX2_gather 1 := ⟨gws_in 922 (by decide +kernel) (by decide +kernel), gws_in 95 (by decide +kernel) (by decide +kernel), (by decide +kernel), by decide⟩
abbrev mX2_below : Md := (yX2_below, cX2_below, 1, (some .long), 0)
theorem caX2_below : CallA mX2_below 1 := ⟨gws_in 925 (by decide +kernel) (by decide +kernel), gws_in 95 (by decide +kernel) (by decide +kernel), (by decide +kernel), by decide⟩
abbrev mX2_sizeOf : Md := (yX2_sizeOf, cX2_sizeOf, 7, (some .int), 1)
theorem caX2_sizeOf : CallA mX2_sizeOf 1 := ⟨gws_in 930 (by decide +kernel) (by decide +kernel), gws_in 95 (by decide +kernel) (by decide +kernel), (by decide +kernel), by decide⟩
abbrev mX2_hasTwin : Md := (yX2_hasTwin, cX2_hasTwin, 4, (some .boolean), 0)
theorem caX2_hasTwin : CallA mX2_hasTwin 2 := ⟨gws_in 954 (by decide +kernel) (by decide +kernel), gws_in 95 (by decide +kernel) (by decide +kernel), (by decide +kernel), by decide⟩
abbrev mX3_init : Md := (yX3_init, cX3_init, 1, none, 1)
theorem caX3_init : CallA mX3_init 0 := ⟨gws_in 355 (by decide +kernel) (by decide +kernel), gws_in 96 (by decide +kernel) (by decide +kernel), (by decide +kernel), by decide⟩
abbrev mX3_postable : Md := (yX3_postable, cX3_postable, 5, (some .int), 2)
theorem caX3_postable : CallA mX3_postable 1 := ⟨gws_in 962 (by decide +kernel) (by decide +kernel), gws_in 96 (by decide +kernel) (by decide +kernel), (by decide +kernel), by decide⟩
abbrev mX3_clear : Md := (yX3_clear, cX3_clear, 1, none, 0)
theorem caX3_clear : CallA mX3_clear 0 := ⟨gws_in 980 (by decide +kernel) (by decide +kernel), gws_in 96 (by decide +kernel) (by decide +kernel), (by decide +kernel), by decide⟩
abbrev mX3_offer : Md := (yX3_offer, cX3_offer, 4, none, 0)
theorem caX3_offer : CallA mX3_offer 3 := ⟨gws_in 984 (by decide +kernel) (by decide +kernel), gws_in 96 (by decide +kernel) (by decide +kernel), (by decide +kernel), by decide⟩
abbrev mX3_choose : Md := (yX3_choose, cX3_choose, 8, none, 1)
theorem caX3_choose : CallA mX3_choose 2 := ⟨gws_in 988 (by decide +kernel) (by decide +kernel), gws_in 96 (by decide +kernel) (by decide +kernel), (by decide +kernel), by decide⟩
abbrev mX4_init : Md := (yX4_init, cX4_init, 1, none, 2)
theorem caX4_init : CallA mX4_init 0 := ⟨gws_in 242 (by decide +kernel) (by decide +kernel), gws_in 90 (by decide +kernel) (by decide +kernel), (by decide +kernel), by decide⟩
abbrev mX4_arrange : Md := (yX4_arrange, cX4_arrange, 3, none, 3)
theorem caX4_arrange : CallA mX4_arrange 2 := ⟨gws_in 697 (by decide +kernel) (by decide +kernel), gws_in 90 (by decide +kernel) (by decide +kernel), (by decide +kernel), by decide⟩
abbrev mX4_arrangeSubs : Md := (yX4_arrangeSubs, cX4_arrangeSubs, 4, none, 3)
theorem caX4_arrangeSubs : CallA mX4_arrangeSubs 3 := ⟨gws_in 781 (by decide +kernel) (by decide +kernel), gws_in 90 (by decide +kernel) (by decide +kernel), (by decide +kernel), by decide⟩
abbrev mX4_setHead : Md := (yX4_setHead, cX4_setHead, 11, (some .int), 7)
theorem caX4_setHead : CallA mX4_setHead 5 := ⟨gws_in 713 (by decide +kernel) (by decide +kernel), gws_in 90 (by decide +kernel) (by decide +kernel), (by decide +kernel), by decide⟩
abbrev mX4_setRuns : Md := (yX4_setRuns, cX4_setRuns, 6, none, 3)
theorem caX4_setRuns : CallA mX4_setRuns 4 := ⟨gws_in 733 (by decide +kernel) (by decide +kernel), gws_in 90 (by decide +kernel) (by decide +kernel), (by decide +kernel), by decide⟩
abbrev mX4_setSee : Md := (yX4_setSee, cX4_setSee, 5, none, 6)
theorem caX4_setSee : CallA mX4_setSee 4 := ⟨gws_in 798 (by decide +kernel) (by decide +kernel), gws_in 90 (by decide +kernel) (by decide +kernel), (by decide +kernel), by decide⟩
abbrev mX4_setAlso : Md := (yX4_setAlso, cX4_setAlso, 6, none, 6)
theorem caX4_setAlso : CallA mX4_setAlso 3 := ⟨gws_in 803 (by decide +kernel) (by decide +kernel), gws_in 90 (by decide +kernel) (by decide +kernel), (by decide +kernel), by decide⟩
abbrev mX5_init : Md := (yX5_init, cX5_init, 1, none, 2)
theorem caX5_init : CallA mX5_init 0 := ⟨gws_in 120 (by decide +kernel) (by decide +kernel), gws_in 88 (by decide +kernel) (by decide +kernel), (by decide +kernel), by decide⟩
abbrev mX5_takeBytes : Md := (yX5_takeBytes, cX5_takeBytes, 5, (some .int), 0)
theorem caX5_takeBytes : CallA mX5_takeBytes 2 := ⟨gws_in 482 (by decide +kernel) (by decide +kernel), gws_in 88 (by decide +kernel) (by decide +kernel), (by decide +kernel), by decide⟩
abbrev mX5_changeBook : Md := (yX5_changeBook, cX5_changeBook, 3, (some (.object "BackPages$Book")), 0)
theorem caX5_changeBook : CallA mX5_changeBook 1 := ⟨gws_in 681 (by decide +kernel) (by decide +kernel), gws_in 88 (by decide +kernel) (by decide +kernel), (by decide +kernel), by decide⟩
abbrev mX5_begin : Md := (yX5_begin, cX5_begin, 1, none, 1)
theorem caX5_begin : CallA mX5_begin 0 := ⟨gws_in 490 (by decide +kernel) (by decide +kernel), gws_in 88 (by decide +kernel) (by decide +kernel), (by decide +kernel), by decide⟩
abbrev mX5_hasMore : Md := (yX5_hasMore, cX5_hasMore, 1, (some .boolean), 1)
theorem caX5_hasMore : CallA mX5_hasMore 0 := ⟨gws_in 498 (by decide +kernel) (by decide +kernel), gws_in 88 (by decide +kernel) (by decide +kernel), (by decide +kernel), by decide⟩
abbrev mX5_fail : Md := (yX5_fail, cX5_fail, 3, (some .int), 0)
theorem caX5_fail : CallA mX5_fail 2 := ⟨gws_in 577 (by decide +kernel) (by decide +kernel), gws_in 88 (by decide +kernel) (by decide +kernel), (by decide +kernel), by decide⟩
abbrev mX5_byteHere : Md := (yX5_byteHere, cX5_byteHere, 1, (some .int), 0)
theorem caX5_byteHere : CallA mX5_byteHere 0 := ⟨gws_in 597 (by decide +kernel) (by decide +kernel), gws_in 88 (by decide +kernel) (by decide +kernel), (by decide +kernel), by decide⟩
abbrev mX5_skipBlanks : Md := (yX5_skipBlanks, cX5_skipBlanks, 1, none, 0)
theorem caX5_skipBlanks : CallA mX5_skipBlanks 0 := ⟨gws_in 502 (by decide +kernel) (by decide +kernel), gws_in 88 (by decide +kernel) (by decide +kernel), (by decide +kernel), by decide⟩
abbrev mX5_isLetter : Md := (yX5_isLetter, cX5_isLetter, 1, (some .boolean), 0)
theorem caX5_isLetter : CallA mX5_isLetter 1 := ⟨gws_in 513 (by decide +kernel) (by decide +kernel), gws_in 88 (by decide +kernel) (by decide +kernel), (by decide +kernel), by decide⟩
abbrev mX5_isFigure : Md := (yX5_isFigure, cX5_isFigure, 1, (some .boolean), 0)
theorem caX5_isFigure : CallA mX5_isFigure 1 := ⟨gws_in 639 (by decide +kernel) (by decide +kernel), gws_in 88 (by decide +kernel) (by decide +kernel), (by decide +kernel), by decide⟩
abbrev mX5_skipWord : Md := (yX5_skipWord, cX5_skipWord, 1, none, 1)
theorem caX5_skipWord : CallA mX5_skipWord 0 := ⟨gws_in 510 (by decide +kernel) (by decide +kernel), gws_in 88 (by decide +kernel) (by decide +kernel), (by decide +kernel), by decide⟩
abbrev mX5_skipNumber : Md := (yX5_skipNumber, cX5_skipNumber, 1, none, 1)
theorem caX5_skipNumber : CallA mX5_skipNumber 0 := ⟨gws_in 643 (by decide +kernel) (by decide +kernel), gws_in 88 (by decide +kernel) (by decide +kernel), (by decide +kernel), by decide⟩
abbrev mX5_isWord : Md := (yX5_isWord, cX5_isWord, 5, (some .boolean), 5)
theorem caX5_isWord : CallA mX5_isWord 3 := ⟨gws_in 522 (by decide +kernel) (by decide +kernel), gws_in 88 (by decide +kernel) (by decide +kernel), (by decide +kernel), by decide⟩
abbrev mX5_readClause : Md := (yX5_readClause, cX5_readClause, 3, none, 8)
theorem caX5_readClause : CallA mX5_readClause 0 := ⟨gws_in 506 (by decide +kernel) (by decide +kernel), gws_in 88 (by decide +kernel) (by decide +kernel), (by decide +kernel), by decide⟩
abbrev mX5_kindOf : Md := (yX5_kindOf, cX5_kindOf, 3, (some .int), 6)
theorem caX5_kindOf : CallA mX5_kindOf 2 := ⟨gws_in 517 (by decide +kernel) (by decide +kernel), gws_in 88 (by decide +kernel) (by decide +kernel), (by decide +kernel), by decide⟩
abbrev mX5_isOneTooMany : Md := (yX5_isOneTooMany, cX5_isOneTooMany, 2, (some .boolean), 0)
theorem caX5_isOneTooMany : CallA mX5_isOneTooMany 1 := ⟨gws_in 581 (by decide +kernel) (by decide +kernel), gws_in 88 (by decide +kernel) (by decide +kernel), (by decide +kernel), by decide⟩
abbrev mX5_readEnd : Md := (yX5_readEnd, cX5_readEnd, 1, none, 1)
theorem caX5_readEnd : CallA mX5_readEnd 0 := ⟨gws_in 677 (by decide +kernel) (by decide +kernel), gws_in 88 (by decide +kernel) (by decide +kernel), (by decide +kernel), by decide⟩
abbrev mX5_readMark : Md := (yX5_readMark, cX5_readMark, 6, none, 7)
theorem caX5_readMark : CallA mX5_readMark 0 := ⟨gws_in 585 (by decide +kernel) (by decide +kernel), gws_in 88 (by decide +kernel) (by decide +kernel), (by decide +kernel), by decide⟩
abbrev mX5_readMain : Md := (yX5_readMain, cX5_readMain, 2, (some .boolean), 6)
theorem caX5_readMain : CallA mX5_readMain 0 := ⟨gws_in 647 (by decide +kernel) (by decide +kernel), gws_in 88 (by decide +kernel) (by decide +kernel), (by decide +kernel), by decide⟩
abbrev mX5_readLink : Md := (yX5_readLink, cX5_readLink, 4, none, 4)
theorem caX5_readLink : CallA mX5_readLink 1 := ⟨gws_in 673 (by decide +kernel) (by decide +kernel), gws_in 88 (by decide +kernel) (by decide +kernel), (by decide +kernel), by decide⟩
abbrev mX5_readAsked : Md := (yX5_readAsked, cX5_readAsked, 3, none, 4)
theorem caX5_readAsked : CallA mX5_readAsked 0 := ⟨gws_in 656 (by decide +kernel) (by decide +kernel), gws_in 88 (by decide +kernel) (by decide +kernel), (by decide +kernel), by decide⟩
abbrev mX5_wordPlace : Md := (yX5_wordPlace, cX5_wordPlace, 2, (some .int), 2)
theorem caX5_wordPlace : CallA mX5_wordPlace 1 := ⟨gws_in 663 (by decide +kernel) (by decide +kernel), gws_in 88 (by decide +kernel) (by decide +kernel), (by decide +kernel), by decide⟩
abbrev mX5_readHead : Md := (yX5_readHead, cX5_readHead, 5, (some .int), 3)
theorem caX5_readHead : CallA mX5_readHead 0 := ⟨gws_in 589 (by decide +kernel) (by decide +kernel), gws_in 88 (by decide +kernel) (by decide +kernel), (by decide +kernel), by decide⟩
abbrev mX5_readSub : Md := (yX5_readSub, cX5_readSub, 6, (some .int), 3)
theorem caX5_readSub : CallA mX5_readSub 1 := ⟨gws_in 620 (by decide +kernel) (by decide +kernel), gws_in 88 (by decide +kernel) (by decide +kernel), (by decide +kernel), by decide⟩
abbrev mX5_wordStart : Md := (yX5_wordStart, cX5_wordStart, 2, (some .int), 2)
theorem caX5_wordStart : CallA mX5_wordStart 0 := ⟨gws_in 593 (by decide +kernel) (by decide +kernel), gws_in 88 (by decide +kernel) (by decide +kernel), (by decide +kernel), by decide⟩
abbrev mX5_isFit : Md := (yX5_isFit, cX5_isFit, 4, (some .boolean), 0)
theorem caX5_isFit : CallA mX5_isFit 2 := ⟨gws_in 601 (by decide +kernel) (by decide +kernel), gws_in 88 (by decide +kernel) (by decide +kernel), (by decide +kernel), by decide⟩
abbrev mX5_packWord : Md := (yX5_packWord, cX5_packWord, 5, (some .long), 1)
theorem caX5_packWord : CallA mX5_packWord 1 := ⟨gws_in 605 (by decide +kernel) (by decide +kernel), gws_in 88 (by decide +kernel) (by decide +kernel), (by decide +kernel), by decide⟩
abbrev mX5_readNumber : Md := (yX5_readNumber, cX5_readNumber, 6, (some .int), 2)
theorem caX5_readNumber : CallA mX5_readNumber 2 := ⟨gws_in 636 (by decide +kernel) (by decide +kernel), gws_in 88 (by decide +kernel) (by decide +kernel), (by decide +kernel), by decide⟩
abbrev mX6_init : Md := (yX6_init, cX6_init, 1, none, 1)
theorem caX6_init : CallA mX6_init 0 := ⟨gws_in 248 (by decide +kernel) (by decide +kernel), gws_in 91 (by decide +kernel) (by decide +kernel), (by decide +kernel), by decide⟩
abbrev mX6_sort : Md := (yX6_sort, cX6_sort, 11, none, 2)
theorem caX6_sort : CallA mX6_sort 4 := ⟨gws_in 701 (by decide +kernel) (by decide +kernel), gws_in 91 (by decide +kernel) (by decide +kernel), (by decide +kernel), by decide⟩
abbrev mX7_init : Md := (yX7_init, cX7_init, 1, none, 1)
theorem caX7_init : CallA mX7_init 0 := ⟨gws_in 263 (by decide +kernel) (by decide +kernel), gws_in 92 (by decide +kernel) (by decide +kernel), (by decide +kernel), by decide⟩
abbrev mX7_clear : Md := (yX7_clear, cX7_clear, 1, none, 0)
theorem caX7_clear : CallA mX7_clear 0 := ⟨gws_in 749 (by decide +kernel) (by decide +kernel), gws_in 92 (by decide +kernel) (by decide +kernel), (by decide +kernel), by decide⟩
abbrev mX7_put : Md := (yX7_put, cX7_put, 10, none, 1)
theorem caX7_put : CallA mX7_put 3 := ⟨gws_in 753 (by decide +kernel) (by decide +kernel), gws_in 92 (by decide +kernel) (by decide +kernel), (by decide +kernel), by decide⟩
abbrev mX7_holds : Md := (yX7_holds, cX7_holds, 4, (some .boolean), 0)
theorem caX7_holds : CallA mX7_holds 2 := ⟨gws_in 1067 (by decide +kernel) (by decide +kernel), gws_in 92 (by decide +kernel) (by decide +kernel), (by decide +kernel), by decide⟩
abbrev mX8_init : Md := (yX8_init, cX8_init, 2, none, 1)
theorem caX8_init : CallA mX8_init 1 := ⟨gws_in 305 (by decide +kernel) (by decide +kernel), gws_in 93 (by decide +kernel) (by decide +kernel), (by decide +kernel), by decide⟩
abbrev mX8_clear : Md := (yX8_clear, cX8_clear, 2, none, 0)
theorem caX8_clear : CallA mX8_clear 1 := ⟨gws_in 709 (by decide +kernel) (by decide +kernel), gws_in 93 (by decide +kernel) (by decide +kernel), (by decide +kernel), by decide⟩
abbrev mX8_putByte : Md := (yX8_putByte, cX8_putByte, 2, none, 0)
theorem caX8_putByte : CallA mX8_putByte 1 := ⟨gws_in 729 (by decide +kernel) (by decide +kernel), gws_in 93 (by decide +kernel) (by decide +kernel), (by decide +kernel), by decide⟩
abbrev mX8_putText : Md := (yX8_putText, cX8_putText, 3, none, 5)
theorem caX8_putText : CallA mX8_putText 1 := ⟨gws_in 787 (by decide +kernel) (by decide +kernel), gws_in 93 (by decide +kernel) (by decide +kernel), (by decide +kernel), by decide⟩
abbrev mX8_putWord : Md := (yX8_putWord, cX8_putWord, 5, none, 2)
theorem caX8_putWord : CallA mX8_putWord 1 := ⟨gws_in 721 (by decide +kernel) (by decide +kernel), gws_in 93 (by decide +kernel) (by decide +kernel), (by decide +kernel), by decide⟩
abbrev mX8_putPage : Md := (yX8_putPage, cX8_putPage, 2, none, 1)
theorem caX8_putPage : CallA mX8_putPage 1 := ⟨gws_in 768 (by decide +kernel) (by decide +kernel), gws_in 93 (by decide +kernel) (by decide +kernel), (by decide +kernel), by decide⟩
abbrev mX8_putRun : Md := (yX8_putRun, cX8_putRun, 4, none, 2)
theorem caX8_putRun : CallA mX8_putRun 3 := ⟨gws_in 764 (by decide +kernel) (by decide +kernel), gws_in 93 (by decide +kernel) (by decide +kernel), (by decide +kernel), by decide⟩
abbrev mX8_write : Md := (yX8_write, cX8_write, 2, none, 0)
theorem caX8_write : CallA mX8_write 1 := ⟨gws_in 741 (by decide +kernel) (by decide +kernel), gws_in 93 (by decide +kernel) (by decide +kernel), (by decide +kernel), by decide⟩
abbrev mX8_placeUnit : Md := (yX8_placeUnit, cX8_placeUnit, 2, none, 1)
theorem caX8_placeUnit : CallA mX8_placeUnit 0 := ⟨gws_in 737 (by decide +kernel) (by decide +kernel), gws_in 93 (by decide +kernel) (by decide +kernel), (by decide +kernel), by decide⟩
abbrev mX8_endRow : Md := (yX8_endRow, cX8_endRow, 1, none, 2)
theorem caX8_endRow : CallA mX8_endRow 0 := ⟨gws_in 772 (by decide +kernel) (by decide +kernel), gws_in 93 (by decide +kernel) (by decide +kernel), (by decide +kernel), by decide⟩
abbrev mX9_init : Md := (yX9_init, cX9_init, 1, none, 1)
theorem caX9_init : CallA mX9_init 0 := ⟨gws_in 410 (by decide +kernel) (by decide +kernel), gws_in 98 (by decide +kernel) (by decide +kernel), (by decide +kernel), by decide⟩
abbrev mX9_lastTold : Md := (yX9_lastTold, cX9_lastTold, 1, (some .int), 0)
theorem caX9_lastTold : CallA mX9_lastTold 0 := ⟨gws_in 1076 (by decide +kernel) (by decide +kernel), gws_in 98 (by decide +kernel) (by decide +kernel), (by decide +kernel), by decide⟩
abbrev mX9_put : Md := (yX9_put, cX9_put, 3, (some .int), 0)
theorem caX9_put : CallA mX9_put 2 := ⟨gws_in 1080 (by decide +kernel) (by decide +kernel), gws_in 98 (by decide +kernel) (by decide +kernel), (by decide +kernel), by decide⟩
abbrev mX9_weigh : Md := (yX9_weigh, cX9_weigh, 4, none, 1)
theorem caX9_weigh : CallA mX9_weigh 1 := ⟨gws_in 1092 (by decide +kernel) (by decide +kernel), gws_in 98 (by decide +kernel) (by decide +kernel), (by decide +kernel), by decide⟩
abbrev mX9_ifStands : Md := (yX9_ifStands, cX9_ifStands, 5, (some .int), 0)
theorem caX9_ifStands : CallA mX9_ifStands 3 := ⟨gws_in 1096 (by decide +kernel) (by decide +kernel), gws_in 98 (by decide +kernel) (by decide +kernel), (by decide +kernel), by decide⟩
abbrev mX9_ifLeftOut : Md := (yX9_ifLeftOut, cX9_ifLeftOut, 3, (some .int), 0)
theorem caX9_ifLeftOut : CallA mX9_ifLeftOut 2 := ⟨gws_in 1100 (by decide +kernel) (by decide +kernel), gws_in 98 (by decide +kernel) (by decide +kernel), (by decide +kernel), by decide⟩
abbrev mX9_leastCost : Md := (yX9_leastCost, cX9_leastCost, 1, (some .int), 0)
theorem caX9_leastCost : CallA mX9_leastCost 0 := ⟨gws_in 1105 (by decide +kernel) (by decide +kernel), gws_in 98 (by decide +kernel) (by decide +kernel), (by decide +kernel), by decide⟩
abbrev mX9_standsAt : Md := (yX9_standsAt, cX9_standsAt, 5, (some .boolean), 1)
theorem caX9_standsAt : CallA mX9_standsAt 2 := ⟨gws_in 1109 (by decide +kernel) (by decide +kernel), gws_in 98 (by decide +kernel) (by decide +kernel), (by decide +kernel), by decide⟩
abbrev mX10_codeAt : Md := (yX10_codeAt, cX10_codeAt, 2, (some .long), 0)
theorem caX10_codeAt : CallA mX10_codeAt 2 := ⟨gws_in 608 (by decide +kernel) (by decide +kernel), gws_in 104 (by decide +kernel) (by decide +kernel), (by decide +kernel), by decide⟩
abbrev mX10_codeOf : Md := (yX10_codeOf, cX10_codeOf, 3, (some .int), 0)
theorem caX10_codeOf : CallA mX10_codeOf 2 := ⟨gws_in 669 (by decide +kernel) (by decide +kernel), gws_in 104 (by decide +kernel) (by decide +kernel), (by decide +kernel), by decide⟩
abbrev mX10_lengthOf : Md := (yX10_lengthOf, cX10_lengthOf, 3, (some .int), 1)
theorem caX10_lengthOf : CallA mX10_lengthOf 1 := ⟨gws_in 666 (by decide +kernel) (by decide +kernel), gws_in 104 (by decide +kernel) (by decide +kernel), (by decide +kernel), by decide⟩
abbrev mX10_byteOf : Md := (yX10_byteOf, cX10_byteOf, 3, (some .int), 1)
theorem caX10_byteOf : CallA mX10_byteOf 2 := ⟨gws_in 725 (by decide +kernel) (by decide +kernel), gws_in 104 (by decide +kernel) (by decide +kernel), (by decide +kernel), by decide⟩
abbrev mX10_withoutLines : Md := (yX10_withoutLines, cX10_withoutLines, 7, (some .long), 1)
theorem caX10_withoutLines : CallA mX10_withoutLines 1 := ⟨gws_in 704 (by decide +kernel) (by decide +kernel), gws_in 104 (by decide +kernel) (by decide +kernel), (by decide +kernel), by decide⟩
abbrev mX10_nearness : Md := (yX10_nearness, cX10_nearness, 8, (some .int), 3)
theorem caX10_nearness : CallA mX10_nearness 2 := ⟨gws_in 1120 (by decide +kernel) (by decide +kernel), gws_in 104 (by decide +kernel) (by decide +kernel), (by decide +kernel), by decide⟩
abbrev mX10_isPlural : Md := (yX10_isPlural, cX10_isPlural, 5, (some .boolean), 2)
theorem caX10_isPlural : CallA mX10_isPlural 2 := ⟨gws_in 1124 (by decide +kernel) (by decide +kernel), gws_in 104 (by decide +kernel) (by decide +kernel), (by decide +kernel), by decide⟩
abbrev mX10_isOneByteOff : Md := (yX10_isOneByteOff, cX10_isOneByteOff, 9, (some .boolean), 1)
theorem caX10_isOneByteOff : CallA mX10_isOneByteOff 2 := ⟨gws_in 1128 (by decide +kernel) (by decide +kernel), gws_in 104 (by decide +kernel) (by decide +kernel), (by decide +kernel), by decide⟩
abbrev mX10_behind : Md := (yX10_behind, cX10_behind, 3, (some .long), 0)
theorem caX10_behind : CallA mX10_behind 2 := ⟨gws_in 1131 (by decide +kernel) (by decide +kernel), gws_in 104 (by decide +kernel) (by decide +kernel), (by decide +kernel), by decide⟩
abbrev mX11_init : Md := (yX11_init, cX11_init, 1, none, 3)
theorem caX11_init : CallA mX11_init 0 := ⟨gws_in 112 (by decide +kernel) (by decide +kernel), gws_in 87 (by decide +kernel) (by decide +kernel), (by decide +kernel), by decide⟩
abbrev mX11_feed : Md := (yX11_feed, cX11_feed, 4, (some .int), 1)
theorem caX11_feed : CallA mX11_feed 2 := ⟨gws_in 478 (by decide +kernel) (by decide +kernel), gws_in 87 (by decide +kernel) (by decide +kernel), (by decide +kernel), by decide⟩
abbrev mX11_read : Md := (yX11_read, cX11_read, 2, (some .int), 9)
theorem caX11_read : CallA mX11_read 0 := ⟨gws_in 486 (by decide +kernel) (by decide +kernel), gws_in 87 (by decide +kernel) (by decide +kernel), (by decide +kernel), by decide⟩
abbrev mX11_fault : Md := (yX11_fault, cX11_fault, 1, (some .int), 0)
theorem caX11_fault : CallA mX11_fault 0 := ⟨gws_in 685 (by decide +kernel) (by decide +kernel), gws_in 87 (by decide +kernel) (by decide +kernel), (by decide +kernel), by decide⟩
abbrev mX11_count : Md := (yX11_count, cX11_count, 2, (some .int), 9)
theorem caX11_count : CallA mX11_count 1 := ⟨gws_in 689 (by decide +kernel) (by decide +kernel), gws_in 87 (by decide +kernel) (by decide +kernel), (by decide +kernel), by decide⟩
abbrev mX11_head : Md := (yX11_head, cX11_head, 3, (some .int), 9)
theorem caX11_head : CallA mX11_head 2 := ⟨gws_in 818 (by decide +kernel) (by decide +kernel), gws_in 87 (by decide +kernel) (by decide +kernel), (by decide +kernel), by decide⟩
abbrev mX11_name : Md := (yX11_name, cX11_name, 6, (some .int), 2)
theorem caX11_name : CallA mX11_name 3 := ⟨gws_in 825 (by decide +kernel) (by decide +kernel), gws_in 87 (by decide +kernel) (by decide +kernel), (by decide +kernel), by decide⟩
abbrev mX11_mark : Md := (yX11_mark, cX11_mark, 3, (some .int), 1)
theorem caX11_mark : CallA mX11_mark 2 := ⟨gws_in 836 (by decide +kernel) (by decide +kernel), gws_in 87 (by decide +kernel) (by decide +kernel), (by decide +kernel), by decide⟩
abbrev mX11_add : Md := (yX11_add, cX11_add, 6, (some .int), 2)
theorem caX11_add : CallA mX11_add 5 := ⟨gws_in 844 (by decide +kernel) (by decide +kernel), gws_in 87 (by decide +kernel) (by decide +kernel), (by decide +kernel), by decide⟩
abbrev mX11_drop : Md := (yX11_drop, cX11_drop, 2, (some .int), 2)
theorem caX11_drop : CallA mX11_drop 1 := ⟨gws_in 852 (by decide +kernel) (by decide +kernel), gws_in 87 (by decide +kernel) (by decide +kernel), (by decide +kernel), by decide⟩
abbrev mX11_asked : Md := (yX11_asked, cX11_asked, 4, (some .int), 1)
theorem caX11_asked : CallA mX11_asked 2 := ⟨gws_in 864 (by decide +kernel) (by decide +kernel), gws_in 87 (by decide +kernel) (by decide +kernel), (by decide +kernel), by decide⟩
abbrev mX11_run : Md := (yX11_run, cX11_run, 5, (some .int), 3)
theorem caX11_run : CallA mX11_run 4 := ⟨gws_in 868 (by decide +kernel) (by decide +kernel), gws_in 87 (by decide +kernel) (by decide +kernel), (by decide +kernel), by decide⟩
abbrev mX11_order : Md := (yX11_order, cX11_order, 3, (some .int), 0)
theorem caX11_order : CallA mX11_order 1 := ⟨gws_in 872 (by decide +kernel) (by decide +kernel), gws_in 87 (by decide +kernel) (by decide +kernel), (by decide +kernel), by decide⟩
abbrev mX11_at : Md := (yX11_at, cX11_at, 2, (some .int), 4)
theorem caX11_at : CallA mX11_at 1 := ⟨gws_in 876 (by decide +kernel) (by decide +kernel), gws_in 87 (by decide +kernel) (by decide +kernel), (by decide +kernel), by decide⟩
abbrev mX11_subAt : Md := (yX11_subAt, cX11_subAt, 3, (some .int), 4)
theorem caX11_subAt : CallA mX11_subAt 2 := ⟨gws_in 880 (by decide +kernel) (by decide +kernel), gws_in 87 (by decide +kernel) (by decide +kernel), (by decide +kernel), by decide⟩
abbrev mX11_width : Md := (yX11_width, cX11_width, 3, (some .int), 0)
theorem caX11_width : CallA mX11_width 1 := ⟨gws_in 885 (by decide +kernel) (by decide +kernel), gws_in 87 (by decide +kernel) (by decide +kernel), (by decide +kernel), by decide⟩
abbrev mX11_print : Md := (yX11_print, cX11_print, 2, (some .int), 9)
theorem caX11_print : CallA mX11_print 1 := ⟨gws_in 889 (by decide +kernel) (by decide +kernel), gws_in 87 (by decide +kernel) (by decide +kernel), (by decide +kernel), by decide⟩
abbrev mX11_printAll : Md := (yX11_printAll, cX11_printAll, 3, none, 8)
theorem caX11_printAll : CallA mX11_printAll 0 := ⟨gws_in 693 (by decide +kernel) (by decide +kernel), gws_in 87 (by decide +kernel) (by decide +kernel), (by decide +kernel), by decide⟩
abbrev mX11_look : Md := (yX11_look, cX11_look, 4, (some .int), 2)
theorem caX11_look : CallA mX11_look 2 := ⟨gws_in 893 (by decide +kernel) (by decide +kernel), gws_in 87 (by decide +kernel) (by decide +kernel), (by decide +kernel), by decide⟩
abbrev mX11_steps : Md := (yX11_steps, cX11_steps, 6, (some .int), 2)
theorem caX11_steps : CallA mX11_steps 2 := ⟨gws_in 906 (by decide +kernel) (by decide +kernel), gws_in 87 (by decide +kernel) (by decide +kernel), (by decide +kernel), by decide⟩
abbrev mX11_finds : Md := (yX11_finds, cX11_finds, 5, (some .int), 2)
theorem caX11_finds : CallA mX11_finds 2 := ⟨gws_in 918 (by decide +kernel) (by decide +kernel), gws_in 87 (by decide +kernel) (by decide +kernel), (by decide +kernel), by decide⟩
abbrev mX11_trouble : Md := (yX11_trouble, cX11_trouble, 6, (some .int), 4)
theorem caX11_trouble : CallA mX11_trouble 2 := ⟨gws_in 941 (by decide +kernel) (by decide +kernel), gws_in 87 (by decide +kernel) (by decide +kernel), (by decide +kernel), by decide⟩
abbrev mX11_hasTrouble : Md := (yX11_hasTrouble, cX11_hasTrouble, 6, (some .boolean), 3)
theorem caX11_hasTrouble : CallA mX11_hasTrouble 4 := ⟨gws_in 945 (by decide +kernel) (by decide +kernel), gws_in 87 (by decide +kernel) (by decide +kernel), (by decide +kernel), by decide⟩
abbrev mX11_posted : Md := (yX11_posted, cX11_posted, 6, (some .int), 9)
theorem caX11_posted : CallA mX11_posted 1 := ⟨gws_in 958 (by decide +kernel) (by decide +kernel), gws_in 87 (by decide +kernel) (by decide +kernel), (by decide +kernel), by decide⟩
abbrev mX11_sourceOf : Md := (yX11_sourceOf, cX11_sourceOf, 3, (some .int), 2)
theorem caX11_sourceOf : CallA mX11_sourceOf 2 := ⟨gws_in 968 (by decide +kernel) (by decide +kernel), gws_in 87 (by decide +kernel) (by decide +kernel), (by decide +kernel), by decide⟩
abbrev mX11_posting : Md := (yX11_posting, cX11_posting, 3, (some .int), 9)
theorem caX11_posting : CallA mX11_posting 2 := ⟨gws_in 972 (by decide +kernel) (by decide +kernel), gws_in 87 (by decide +kernel) (by decide +kernel), (by decide +kernel), by decide⟩
abbrev mX11_offerPosts : Md := (yX11_offerPosts, cX11_offerPosts, 6, none, 8)
theorem caX11_offerPosts : CallA mX11_offerPosts 0 := ⟨gws_in 976 (by decide +kernel) (by decide +kernel), gws_in 87 (by decide +kernel) (by decide +kernel), (by decide +kernel), by decide⟩
abbrev mX11_fit : Md := (yX11_fit, cX11_fit, 3, (some .int), 9)
theorem caX11_fit : CallA mX11_fit 2 := ⟨gws_in 993 (by decide +kernel) (by decide +kernel), gws_in 87 (by decide +kernel) (by decide +kernel), (by decide +kernel), by decide⟩
abbrev mX11_offerFits : Md := (yX11_offerFits, cX11_offerFits, 4, none, 8)
theorem caX11_offerFits : CallA mX11_offerFits 0 := ⟨gws_in 997 (by decide +kernel) (by decide +kernel), gws_in 87 (by decide +kernel) (by decide +kernel), (by decide +kernel), by decide⟩
abbrev mX11_putIn : Md := (yX11_putIn, cX11_putIn, 3, (some .int), 2)
theorem caX11_putIn : CallA mX11_putIn 2 := ⟨gws_in 1032 (by decide +kernel) (by decide +kernel), gws_in 87 (by decide +kernel) (by decide +kernel), (by decide +kernel), by decide⟩
abbrev mX11_takeOut : Md := (yX11_takeOut, cX11_takeOut, 3, (some .int), 2)
theorem caX11_takeOut : CallA mX11_takeOut 2 := ⟨gws_in 1045 (by decide +kernel) (by decide +kernel), gws_in 87 (by decide +kernel) (by decide +kernel), (by decide +kernel), by decide⟩
abbrev mX11_stale : Md := (yX11_stale, cX11_stale, 8, (some .int), 4)
theorem caX11_stale : CallA mX11_stale 1 := ⟨gws_in 1054 (by decide +kernel) (by decide +kernel), gws_in 87 (by decide +kernel) (by decide +kernel), (by decide +kernel), by decide⟩
abbrev mX11_staleRuns : Md := (yX11_staleRuns, cX11_staleRuns, 8, (some .int), 3)
theorem caX11_staleRuns : CallA mX11_staleRuns 5 := ⟨gws_in 1062 (by decide +kernel) (by decide +kernel), gws_in 87 (by decide +kernel) (by decide +kernel), (by decide +kernel), by decide⟩
abbrev mX11_saw : Md := (yX11_saw, cX11_saw, 3, (some .int), 1)
theorem caX11_saw : CallA mX11_saw 2 := ⟨gws_in 1072 (by decide +kernel) (by decide +kernel), gws_in 87 (by decide +kernel) (by decide +kernel), (by decide +kernel), by decide⟩
abbrev mX11_forget : Md := (yX11_forget, cX11_forget, 2, (some .int), 0)
theorem caX11_forget : CallA mX11_forget 0 := ⟨gws_in 1084 (by decide +kernel) (by decide +kernel), gws_in 87 (by decide +kernel) (by decide +kernel), (by decide +kernel), by decide⟩
abbrev mX11_story : Md := (yX11_story, cX11_story, 3, (some .int), 2)
theorem caX11_story : CallA mX11_story 2 := ⟨gws_in 1088 (by decide +kernel) (by decide +kernel), gws_in 87 (by decide +kernel) (by decide +kernel), (by decide +kernel), by decide⟩
abbrev mX11_near : Md := (yX11_near, cX11_near, 3, (some .int), 4)
theorem caX11_near : CallA mX11_near 2 := ⟨gws_in 1113 (by decide +kernel) (by decide +kernel), gws_in 87 (by decide +kernel) (by decide +kernel), (by decide +kernel), by decide⟩
abbrev mX11_join : Md := (yX11_join, cX11_join, 3, (some .int), 3)
theorem caX11_join : CallA mX11_join 2 := ⟨gws_in 1136 (by decide +kernel) (by decide +kernel), gws_in 87 (by decide +kernel) (by decide +kernel), (by decide +kernel), by decide⟩
abbrev mX11_keep : Md := (yX11_keep, cX11_keep, 2, (some .int), 2)
theorem caX11_keep : CallA mX11_keep 1 := ⟨gws_in 1160 (by decide +kernel) (by decide +kernel), gws_in 87 (by decide +kernel) (by decide +kernel), (by decide +kernel), by decide⟩
abbrev mX11_goBack : Md := (yX11_goBack, cX11_goBack, 2, (some .int), 2)
theorem caX11_goBack : CallA mX11_goBack 1 := ⟨gws_in 1169 (by decide +kernel) (by decide +kernel), gws_in 87 (by decide +kernel) (by decide +kernel), (by decide +kernel), by decide⟩
abbrev mX11_areTwoHeads : Md := (yX11_areTwoHeads, cX11_areTwoHeads, 3, (some .boolean), 1)
theorem caX11_areTwoHeads : CallA mX11_areTwoHeads 2 := ⟨gws_in 1117 (by decide +kernel) (by decide +kernel), gws_in 87 (by decide +kernel) (by decide +kernel), (by decide +kernel), by decide⟩
abbrev mX11_isPage : Md := (yX11_isPage, cX11_isPage, 1, (some .boolean), 0)
theorem caX11_isPage : CallA mX11_isPage 1 := ⟨gws_in 847 (by decide +kernel) (by decide +kernel), gws_in 87 (by decide +kernel) (by decide +kernel), (by decide +kernel), by decide⟩
abbrev mX11_isImage : Md := (yX11_isImage, cX11_isImage, 1, (some .boolean), 0)
theorem caX11_isImage : CallA mX11_isImage 1 := ⟨gws_in 1057 (by decide +kernel) (by decide +kernel), gws_in 87 (by decide +kernel) (by decide +kernel), (by decide +kernel), by decide⟩
abbrev mX11_isIn : Md := (yX11_isIn, cX11_isIn, 2, (some .boolean), 0)
theorem caX11_isIn : CallA mX11_isIn 2 := ⟨gws_in 659 (by decide +kernel) (by decide +kernel), gws_in 87 (by decide +kernel) (by decide +kernel), (by decide +kernel), by decide⟩
abbrev mX12_init : Md := (yX12_init, cX12_init, 1, none, 1)
theorem caX12_init : CallA mX12_init 0 := ⟨gws_in 1174 (by decide +kernel) (by decide +kernel), gws_in 99 (by decide +kernel) (by decide +kernel), (by decide +kernel), by decide⟩
abbrev mX12_in : Md := (yX12_in, cX12_in, 6, (some .boolean), 0)
theorem caX12_in : CallA mX12_in 3 := ⟨gws_in 1385 (by decide +kernel) (by decide +kernel), gws_in 99 (by decide +kernel) (by decide +kernel), (by decide +kernel), by decide⟩
abbrev mX12_one : Md := (yX12_one, cX12_one, 1, (some .int), 0)
theorem caX12_one : CallA mX12_one 1 := ⟨gws_in 1511 (by decide +kernel) (by decide +kernel), gws_in 99 (by decide +kernel) (by decide +kernel), (by decide +kernel), by decide⟩
abbrev mX12_has : Md := (yX12_has, cX12_has, 2, (some .boolean), 0)
theorem caX12_has : CallA mX12_has 2 := ⟨gws_in 1468 (by decide +kernel) (by decide +kernel), gws_in 99 (by decide +kernel) (by decide +kernel), (by decide +kernel), by decide⟩
abbrev mX12_slot : Md := (yX12_slot, cX12_slot, 2, (some .int), 0)
theorem caX12_slot : CallA mX12_slot 2 := ⟨gws_in 1435 (by decide +kernel) (by decide +kernel), gws_in 99 (by decide +kernel) (by decide +kernel), (by decide +kernel), by decide⟩
abbrev mX12_feed : Md := (yX12_feed, cX12_feed, 5, (some .int), 1)
theorem caX12_feed : CallA mX12_feed 2 := ⟨gws_in 1381 (by decide +kernel) (by decide +kernel), gws_in 99 (by decide +kernel) (by decide +kernel), (by decide +kernel), by decide⟩
abbrev mX12_here : Md := (yX12_here, cX12_here, 1, (some .int), 0)
theorem caX12_here : CallA mX12_here 0 := ⟨gws_in 1398 (by decide +kernel) (by decide +kernel), gws_in 99 (by decide +kernel) (by decide +kernel), (by decide +kernel), by decide⟩
abbrev mX12_want : Md := (yX12_want, cX12_want, 4, (some .boolean), 0)
theorem caX12_want : CallA mX12_want 3 := ⟨gws_in 1423 (by decide +kernel) (by decide +kernel), gws_in 99 (by decide +kernel) (by decide +kernel), (by decide +kernel), by decide⟩
abbrev mX12_isLetter : Md := (yX12_isLetter, cX12_isLetter, 1, (some .boolean), 1)
theorem caX12_isLetter : CallA mX12_isLetter 1 := ⟨gws_in 1409 (by decide +kernel) (by decide +kernel), gws_in 99 (by decide +kernel) (by decide +kernel), (by decide +kernel), by decide⟩
abbrev mX12_takeWord : Md := (yX12_takeWord, cX12_takeWord, 2, none, 2)
theorem caX12_takeWord : CallA mX12_takeWord 0 := ⟨gws_in 1406 (by decide +kernel) (by decide +kernel), gws_in 99 (by decide +kernel) (by decide +kernel), (by decide +kernel), by decide⟩
abbrev mX12_isWord : Md := (yX12_isWord, cX12_isWord, 9, (some .boolean), 0)
theorem caX12_isWord : CallA mX12_isWord 6 := ⟨gws_in 1415 (by decide +kernel) (by decide +kernel), gws_in 99 (by decide +kernel) (by decide +kernel), (by decide +kernel), by decide⟩
abbrev mX12_isName : Md := (yX12_isName, cX12_isName, 3, (some .boolean), 1)
theorem caX12_isName : CallA mX12_isName 0 := ⟨gws_in 1431 (by decide +kernel) (by decide +kernel), gws_in 99 (by decide +kernel) (by decide +kernel), (by decide +kernel), by decide⟩
abbrev mX12_isHere : Md := (yX12_isHere, cX12_isHere, 4, (some .boolean), 0)
theorem caX12_isHere : CallA mX12_isHere 1 := ⟨gws_in 1439 (by decide +kernel) (by decide +kernel), gws_in 99 (by decide +kernel) (by decide +kernel), (by decide +kernel), by decide⟩
abbrev mX12_nameIt : Md := (yX12_nameIt, cX12_nameIt, 3, none, 0)
theorem caX12_nameIt : CallA mX12_nameIt 1 := ⟨gws_in 1443 (by decide +kernel) (by decide +kernel), gws_in 99 (by decide +kernel) (by decide +kernel), (by decide +kernel), by decide⟩
abbrev mX12_takeHead : Md := (yX12_takeHead, cX12_takeHead, 2, (some .int), 3)
theorem caX12_takeHead : CallA mX12_takeHead 0 := ⟨gws_in 1427 (by decide +kernel) (by decide +kernel), gws_in 99 (by decide +kernel) (by decide +kernel), (by decide +kernel), by decide⟩
abbrev mX12_takeSub : Md := (yX12_takeSub, cX12_takeSub, 3, (some .int), 3)
theorem caX12_takeSub : CallA mX12_takeSub 1 := ⟨gws_in 1447 (by decide +kernel) (by decide +kernel), gws_in 99 (by decide +kernel) (by decide +kernel), (by decide +kernel), by decide⟩
abbrev mX12_takeNumber : Md := (yX12_takeNumber, cX12_takeNumber, 6, (some .int), 1)
theorem caX12_takeNumber : CallA mX12_takeNumber 2 := ⟨gws_in 1451 (by decide +kernel) (by decide +kernel), gws_in 99 (by decide +kernel) (by decide +kernel), (by decide +kernel), by decide⟩
abbrev mX12_takeMark : Md := (yX12_takeMark, cX12_takeMark, 7, none, 4)
theorem caX12_takeMark : CallA mX12_takeMark 1 := ⟨gws_in 1419 (by decide +kernel) (by decide +kernel), gws_in 99 (by decide +kernel) (by decide +kernel), (by decide +kernel), by decide⟩
abbrev mX12_lay : Md := (yX12_lay, cX12_lay, 6, none, 0)
theorem caX12_lay : CallA mX12_lay 5 := ⟨gws_in 1457 (by decide +kernel) (by decide +kernel), gws_in 99 (by decide +kernel) (by decide +kernel), (by decide +kernel), by decide⟩
abbrev mX12_takeSee : Md := (yX12_takeSee, cX12_takeSee, 4, none, 4)
theorem caX12_takeSee : CallA mX12_takeSee 1 := ⟨gws_in 1461 (by decide +kernel) (by decide +kernel), gws_in 99 (by decide +kernel) (by decide +kernel), (by decide +kernel), by decide⟩
abbrev mX12_takeAlso : Md := (yX12_takeAlso, cX12_takeAlso, 4, none, 4)
theorem caX12_takeAlso : CallA mX12_takeAlso 1 := ⟨gws_in 1465 (by decide +kernel) (by decide +kernel), gws_in 99 (by decide +kernel) (by decide +kernel), (by decide +kernel), by decide⟩
abbrev mX12_takeAsked : Md := (yX12_takeAsked, cX12_takeAsked, 2, none, 4)
theorem caX12_takeAsked : CallA mX12_takeAsked 0 := ⟨gws_in 1472 (by decide +kernel) (by decide +kernel), gws_in 99 (by decide +kernel) (by decide +kernel), (by decide +kernel), by decide⟩
abbrev mX12_takeClause : Md := (yX12_takeClause, cX12_takeClause, 2, none, 5)
theorem caX12_takeClause : CallA mX12_takeClause 0 := ⟨gws_in 1402 (by decide +kernel) (by decide +kernel), gws_in 99 (by decide +kernel) (by decide +kernel), (by decide +kernel), by decide⟩
abbrev mX12_read : Md := (yX12_read, cX12_read, 1, (some .int), 6)
theorem caX12_read : CallA mX12_read 0 := ⟨gws_in 1390 (by decide +kernel) (by decide +kernel), gws_in 99 (by decide +kernel) (by decide +kernel), (by decide +kernel), by decide⟩
abbrev mX12_fault : Md := (yX12_fault, cX12_fault, 1, (some .int), 0)
theorem caX12_fault : CallA mX12_fault 0 := ⟨gws_in 1480 (by decide +kernel) (by decide +kernel), gws_in 99 (by decide +kernel) (by decide +kernel), (by decide +kernel), by decide⟩
abbrev mX12_noHead : Md := (yX12_noHead, cX12_noHead, 2, (some .boolean), 1)
theorem caX12_noHead : CallA mX12_noHead 1 := ⟨gws_in 1615 (by decide +kernel) (by decide +kernel), gws_in 99 (by decide +kernel) (by decide +kernel), (by decide +kernel), by decide⟩
abbrev mX12_noSub : Md := (yX12_noSub, cX12_noSub, 3, (some .boolean), 1)
theorem caX12_noSub : CallA mX12_noSub 2 := ⟨gws_in 1627 (by decide +kernel) (by decide +kernel), gws_in 99 (by decide +kernel) (by decide +kernel), (by decide +kernel), by decide⟩
abbrev mX12_isOf : Md := (yX12_isOf, cX12_isOf, 4, (some .boolean), 0)
theorem caX12_isOf : CallA mX12_isOf 3 := ⟨gws_in 1527 (by decide +kernel) (by decide +kernel), gws_in 99 (by decide +kernel) (by decide +kernel), (by decide +kernel), by decide⟩
abbrev mX12_marksOf : Md := (yX12_marksOf, cX12_marksOf, 5, (some .int), 1)
theorem caX12_marksOf : CallA mX12_marksOf 2 := ⟨gws_in 1523 (by decide +kernel) (by decide +kernel), gws_in 99 (by decide +kernel) (by decide +kernel), (by decide +kernel), by decide⟩
abbrev mX12_isFilled : Md := (yX12_isFilled, cX12_isFilled, 2, (some .boolean), 2)
theorem caX12_isFilled : CallA mX12_isFilled 1 := ⟨gws_in 1519 (by decide +kernel) (by decide +kernel), gws_in 99 (by decide +kernel) (by decide +kernel), (by decide +kernel), by decide⟩
abbrev mX12_fullSubs : Md := (yX12_fullSubs, cX12_fullSubs, 4, (some .int), 2)
theorem caX12_fullSubs : CallA mX12_fullSubs 1 := ⟨gws_in 1717 (by decide +kernel) (by decide +kernel), gws_in 99 (by decide +kernel) (by decide +kernel), (by decide +kernel), by decide⟩
abbrev mX12_filled : Md := (yX12_filled, cX12_filled, 3, (some .int), 3)
theorem caX12_filled : CallA mX12_filled 0 := ⟨gws_in 1607 (by decide +kernel) (by decide +kernel), gws_in 99 (by decide +kernel) (by decide +kernel), (by decide +kernel), by decide⟩
abbrev mX12_count : Md := (yX12_count, cX12_count, 2, (some .int), 9)
theorem caX12_count : CallA mX12_count 1 := ⟨gws_in 1484 (by decide +kernel) (by decide +kernel), gws_in 99 (by decide +kernel) (by decide +kernel), (by decide +kernel), by decide⟩
abbrev mX12_head : Md := (yX12_head, cX12_head, 3, (some .int), 8)
theorem caX12_head : CallA mX12_head 2 := ⟨gws_in 1611 (by decide +kernel) (by decide +kernel), gws_in 99 (by decide +kernel) (by decide +kernel), (by decide +kernel), by decide⟩
abbrev mX12_name : Md := (yX12_name, cX12_name, 5, (some .int), 2)
theorem caX12_name : CallA mX12_name 3 := ⟨gws_in 1623 (by decide +kernel) (by decide +kernel), gws_in 99 (by decide +kernel) (by decide +kernel), (by decide +kernel), by decide⟩
abbrev mX12_mark : Md := (yX12_mark, cX12_mark, 3, (some .int), 1)
theorem caX12_mark : CallA mX12_mark 2 := ⟨gws_in 1632 (by decide +kernel) (by decide +kernel), gws_in 99 (by decide +kernel) (by decide +kernel), (by decide +kernel), by decide⟩
abbrev mX12_isPage : Md := (yX12_isPage, cX12_isPage, 1, (some .boolean), 1)
theorem caX12_isPage : CallA mX12_isPage 1 := ⟨gws_in 1639 (by decide +kernel) (by decide +kernel), gws_in 99 (by decide +kernel) (by decide +kernel), (by decide +kernel), by decide⟩
abbrev mX12_add : Md := (yX12_add, cX12_add, 6, (some .int), 2)
theorem caX12_add : CallA mX12_add 5 := ⟨gws_in 1636 (by decide +kernel) (by decide +kernel), gws_in 99 (by decide +kernel) (by decide +kernel), (by decide +kernel), by decide⟩
abbrev mX12_takeAway : Md := (yX12_takeAway, cX12_takeAway, 3, none, 0)
theorem caX12_takeAway : CallA mX12_takeAway 1 := ⟨gws_in 1648 (by decide +kernel) (by decide +kernel), gws_in 99 (by decide +kernel) (by decide +kernel), (by decide +kernel), by decide⟩
abbrev mX12_drop : Md := (yX12_drop, cX12_drop, 2, (some .int), 1)
theorem caX12_drop : CallA mX12_drop 1 := ⟨gws_in 1644 (by decide +kernel) (by decide +kernel), gws_in 99 (by decide +kernel) (by decide +kernel), (by decide +kernel), by decide⟩
abbrev mX12_asked : Md := (yX12_asked, cX12_asked, 4, (some .int), 2)
theorem caX12_asked : CallA mX12_asked 2 := ⟨gws_in 1652 (by decide +kernel) (by decide +kernel), gws_in 99 (by decide +kernel) (by decide +kernel), (by decide +kernel), by decide⟩
abbrev mX12_tick : Md := (yX12_tick, cX12_tick, 5, none, 1)
theorem caX12_tick : CallA mX12_tick 2 := ⟨gws_in 1575 (by decide +kernel) (by decide +kernel), gws_in 99 (by decide +kernel) (by decide +kernel), (by decide +kernel), by decide⟩
abbrev mX12_nextRun : Md := (yX12_nextRun, cX12_nextRun, 2, (some .boolean), 0)
theorem caX12_nextRun : CallA mX12_nextRun 1 := ⟨gws_in 1583 (by decide +kernel) (by decide +kernel), gws_in 99 (by decide +kernel) (by decide +kernel), (by decide +kernel), by decide⟩
abbrev mX12_runsTicked : Md := (yX12_runsTicked, cX12_runsTicked, 3, (some .int), 1)
theorem caX12_runsTicked : CallA mX12_runsTicked 0 := ⟨gws_in 1619 (by decide +kernel) (by decide +kernel), gws_in 99 (by decide +kernel) (by decide +kernel), (by decide +kernel), by decide⟩
abbrev mX12_run : Md := (yX12_run, cX12_run, 7, (some .int), 2)
theorem caX12_run : CallA mX12_run 4 := ⟨gws_in 1656 (by decide +kernel) (by decide +kernel), gws_in 99 (by decide +kernel) (by decide +kernel), (by decide +kernel), by decide⟩
abbrev mX12_signAt : Md := (yX12_signAt, cX12_signAt, 7, (some .int), 1)
theorem caX12_signAt : CallA mX12_signAt 2 := ⟨gws_in 1508 (by decide +kernel) (by decide +kernel), gws_in 99 (by decide +kernel) (by decide +kernel), (by decide +kernel), by decide⟩
abbrev mX12_isLess : Md := (yX12_isLess, cX12_isLess, 6, (some .boolean), 2)
theorem caX12_isLess : CallA mX12_isLess 2 := ⟨gws_in 1504 (by decide +kernel) (by decide +kernel), gws_in 99 (by decide +kernel) (by decide +kernel), (by decide +kernel), by decide⟩
abbrev mX12_placeOf : Md := (yX12_placeOf, cX12_placeOf, 8, (some .int), 3)
theorem caX12_placeOf : CallA mX12_placeOf 4 := ⟨gws_in 1500 (by decide +kernel) (by decide +kernel), gws_in 99 (by decide +kernel) (by decide +kernel), (by decide +kernel), by decide⟩
abbrev mX12_findOrder : Md := (yX12_findOrder, cX12_findOrder, 2, none, 4)
theorem caX12_findOrder : CallA mX12_findOrder 0 := ⟨gws_in 1496 (by decide +kernel) (by decide +kernel), gws_in 99 (by decide +kernel) (by decide +kernel), (by decide +kernel), by decide⟩
abbrev mX12_subOf : Md := (yX12_subOf, cX12_subOf, 4, (some .int), 4)
theorem caX12_subOf : CallA mX12_subOf 2 := ⟨gws_in 1595 (by decide +kernel) (by decide +kernel), gws_in 99 (by decide +kernel) (by decide +kernel), (by decide +kernel), by decide⟩
abbrev mX12_order : Md := (yX12_order, cX12_order, 3, (some .int), 1)
theorem caX12_order : CallA mX12_order 1 := ⟨gws_in 1661 (by decide +kernel) (by decide +kernel), gws_in 99 (by decide +kernel) (by decide +kernel), (by decide +kernel), by decide⟩
abbrev mX12_at : Md := (yX12_at, cX12_at, 2, (some .int), 5)
theorem caX12_at : CallA mX12_at 1 := ⟨gws_in 1665 (by decide +kernel) (by decide +kernel), gws_in 99 (by decide +kernel) (by decide +kernel), (by decide +kernel), by decide⟩
abbrev mX12_subAt : Md := (yX12_subAt, cX12_subAt, 3, (some .int), 5)
theorem caX12_subAt : CallA mX12_subAt 2 := ⟨gws_in 1669 (by decide +kernel) (by decide +kernel), gws_in 99 (by decide +kernel) (by decide +kernel), (by decide +kernel), by decide⟩
abbrev mX12_width : Md := (yX12_width, cX12_width, 3, (some .int), 1)
theorem caX12_width : CallA mX12_width 1 := ⟨gws_in 1673 (by decide +kernel) (by decide +kernel), gws_in 99 (by decide +kernel) (by decide +kernel), (by decide +kernel), by decide⟩
abbrev mX12_put : Md := (yX12_put, cX12_put, 2, none, 0)
theorem caX12_put : CallA mX12_put 1 := ⟨gws_in 1563 (by decide +kernel) (by decide +kernel), gws_in 99 (by decide +kernel) (by decide +kernel), (by decide +kernel), by decide⟩
abbrev mX12_endLine : Md := (yX12_endLine, cX12_endLine, 1, none, 0)
theorem caX12_endLine : CallA mX12_endLine 0 := ⟨gws_in 1567 (by decide +kernel) (by decide +kernel), gws_in 99 (by decide +kernel) (by decide +kernel), (by decide +kernel), by decide⟩
abbrev mX12_beginUnit : Md := (yX12_beginUnit, cX12_beginUnit, 3, none, 1)
theorem caX12_beginUnit : CallA mX12_beginUnit 1 := ⟨gws_in 1543 (by decide +kernel) (by decide +kernel), gws_in 99 (by decide +kernel) (by decide +kernel), (by decide +kernel), by decide⟩
abbrev mX12_sign : Md := (yX12_sign, cX12_sign, 2, none, 0)
theorem caX12_sign : CallA mX12_sign 1 := ⟨gws_in 1547 (by decide +kernel) (by decide +kernel), gws_in 99 (by decide +kernel) (by decide +kernel), (by decide +kernel), by decide⟩
abbrev mX12_signWord : Md := (yX12_signWord, cX12_signWord, 3, none, 1)
theorem caX12_signWord : CallA mX12_signWord 1 := ⟨gws_in 1551 (by decide +kernel) (by decide +kernel), gws_in 99 (by decide +kernel) (by decide +kernel), (by decide +kernel), by decide⟩
abbrev mX12_signSee : Md := (yX12_signSee, cX12_signSee, 1, none, 1)
theorem caX12_signSee : CallA mX12_signSee 0 := ⟨gws_in 1555 (by decide +kernel) (by decide +kernel), gws_in 99 (by decide +kernel) (by decide +kernel), (by decide +kernel), by decide⟩
abbrev mX12_signNumber : Md := (yX12_signNumber, cX12_signNumber, 2, none, 1)
theorem caX12_signNumber : CallA mX12_signNumber 1 := ⟨gws_in 1587 (by decide +kernel) (by decide +kernel), gws_in 99 (by decide +kernel) (by decide +kernel), (by decide +kernel), by decide⟩
abbrev mX12_beginRow : Md := (yX12_beginRow, cX12_beginRow, 1, none, 0)
theorem caX12_beginRow : CallA mX12_beginRow 0 := ⟨gws_in 1539 (by decide +kernel) (by decide +kernel), gws_in 99 (by decide +kernel) (by decide +kernel), (by decide +kernel), by decide⟩
abbrev mX12_putUnit : Md := (yX12_putUnit, cX12_putUnit, 2, none, 1)
theorem caX12_putUnit : CallA mX12_putUnit 0 := ⟨gws_in 1559 (by decide +kernel) (by decide +kernel), gws_in 99 (by decide +kernel) (by decide +kernel), (by decide +kernel), by decide⟩
abbrev mX12_putRuns : Md := (yX12_putRuns, cX12_putRuns, 2, none, 2)
theorem caX12_putRuns : CallA mX12_putRuns 0 := ⟨gws_in 1579 (by decide +kernel) (by decide +kernel), gws_in 99 (by decide +kernel) (by decide +kernel), (by decide +kernel), by decide⟩
abbrev mX12_printSubs : Md := (yX12_printSubs, cX12_printSubs, 4, none, 5)
theorem caX12_printSubs : CallA mX12_printSubs 1 := ⟨gws_in 1591 (by decide +kernel) (by decide +kernel), gws_in 99 (by decide +kernel) (by decide +kernel), (by decide +kernel), by decide⟩
abbrev mX12_printSee : Md := (yX12_printSee, cX12_printSee, 2, none, 2)
theorem caX12_printSee : CallA mX12_printSee 1 := ⟨gws_in 1535 (by decide +kernel) (by decide +kernel), gws_in 99 (by decide +kernel) (by decide +kernel), (by decide +kernel), by decide⟩
abbrev mX12_printAlso : Md := (yX12_printAlso, cX12_printAlso, 4, none, 2)
theorem caX12_printAlso : CallA mX12_printAlso 1 := ⟨gws_in 1599 (by decide +kernel) (by decide +kernel), gws_in 99 (by decide +kernel) (by decide +kernel), (by decide +kernel), by decide⟩
abbrev mX12_isPrinted : Md := (yX12_isPrinted, cX12_isPrinted, 2, (some .boolean), 3)
theorem caX12_isPrinted : CallA mX12_isPrinted 1 := ⟨gws_in 1515 (by decide +kernel) (by decide +kernel), gws_in 99 (by decide +kernel) (by decide +kernel), (by decide +kernel), by decide⟩
abbrev mX12_printHead : Md := (yX12_printHead, cX12_printHead, 5, none, 6)
theorem caX12_printHead : CallA mX12_printHead 2 := ⟨gws_in 1531 (by decide +kernel) (by decide +kernel), gws_in 99 (by decide +kernel) (by decide +kernel), (by decide +kernel), by decide⟩
abbrev mX12_linesOf : Md := (yX12_linesOf, cX12_linesOf, 5, (some .int), 7)
theorem caX12_linesOf : CallA mX12_linesOf 2 := ⟨gws_in 1492 (by decide +kernel) (by decide +kernel), gws_in 99 (by decide +kernel) (by decide +kernel), (by decide +kernel), by decide⟩
abbrev mX12_linesOfAll : Md := (yX12_linesOfAll, cX12_linesOfAll, 4, (some .int), 8)
theorem caX12_linesOfAll : CallA mX12_linesOfAll 1 := ⟨gws_in 1488 (by decide +kernel) (by decide +kernel), gws_in 99 (by decide +kernel) (by decide +kernel), (by decide +kernel), by decide⟩
abbrev mX12_bytesOfAll : Md := (yX12_bytesOfAll, cX12_bytesOfAll, 3, (some .int), 7)
theorem caX12_bytesOfAll : CallA mX12_bytesOfAll 0 := ⟨gws_in 1603 (by decide +kernel) (by decide +kernel), gws_in 99 (by decide +kernel) (by decide +kernel), (by decide +kernel), by decide⟩
abbrev mX12_print : Md := (yX12_print, cX12_print, 2, (some .int), 8)
theorem caX12_print : CallA mX12_print 1 := ⟨gws_in 1679 (by decide +kernel) (by decide +kernel), gws_in 99 (by decide +kernel) (by decide +kernel), (by decide +kernel), by decide⟩
abbrev mX12_foundFrom : Md := (yX12_foundFrom, cX12_foundFrom, 3, (some .int), 3)
theorem caX12_foundFrom : CallA mX12_foundFrom 1 := ⟨gws_in 1571 (by decide +kernel) (by decide +kernel), gws_in 99 (by decide +kernel) (by decide +kernel), (by decide +kernel), by decide⟩
abbrev mX12_look : Md := (yX12_look, cX12_look, 4, (some .int), 4)
theorem caX12_look : CallA mX12_look 2 := ⟨gws_in 1683 (by decide +kernel) (by decide +kernel), gws_in 99 (by decide +kernel) (by decide +kernel), (by decide +kernel), by decide⟩
abbrev mX12_stepOn : Md := (yX12_stepOn, cX12_stepOn, 4, (some .int), 1)
theorem caX12_stepOn : CallA mX12_stepOn 1 := ⟨gws_in 1695 (by decide +kernel) (by decide +kernel), gws_in 99 (by decide +kernel) (by decide +kernel), (by decide +kernel), by decide⟩
abbrev mX12_tickAll : Md := (yX12_tickAll, cX12_tickAll, 5, (some .int), 1)
theorem caX12_tickAll : CallA mX12_tickAll 1 := ⟨gws_in 1691 (by decide +kernel) (by decide +kernel), gws_in 99 (by decide +kernel) (by decide +kernel), (by decide +kernel), by decide⟩
abbrev mX12_steps : Md := (yX12_steps, cX12_steps, 6, (some .int), 2)
theorem caX12_steps : CallA mX12_steps 2 := ⟨gws_in 1687 (by decide +kernel) (by decide +kernel), gws_in 99 (by decide +kernel) (by decide +kernel), (by decide +kernel), by decide⟩
abbrev mX12_finds : Md := (yX12_finds, cX12_finds, 5, (some .int), 2)
theorem caX12_finds : CallA mX12_finds 2 := ⟨gws_in 1699 (by decide +kernel) (by decide +kernel), gws_in 99 (by decide +kernel) (by decide +kernel), (by decide +kernel), by decide⟩
abbrev mX12_goesRound : Md := (yX12_goesRound, cX12_goesRound, 4, (some .boolean), 0)
theorem caX12_goesRound : CallA mX12_goesRound 1 := ⟨gws_in 1713 (by decide +kernel) (by decide +kernel), gws_in 99 (by decide +kernel) (by decide +kernel), (by decide +kernel), by decide⟩
abbrev mX12_hasTwin : Md := (yX12_hasTwin, cX12_hasTwin, 7, (some .boolean), 2)
theorem caX12_hasTwin : CallA mX12_hasTwin 1 := ⟨gws_in 1725 (by decide +kernel) (by decide +kernel), gws_in 99 (by decide +kernel) (by decide +kernel), (by decide +kernel), by decide⟩
abbrev mX12_alsoEmpty : Md := (yX12_alsoEmpty, cX12_alsoEmpty, 4, (some .boolean), 3)
theorem caX12_alsoEmpty : CallA mX12_alsoEmpty 1 := ⟨gws_in 1721 (by decide +kernel) (by decide +kernel), gws_in 99 (by decide +kernel) (by decide +kernel), (by decide +kernel), by decide⟩
abbrev mX12_isTrouble : Md := (yX12_isTrouble, cX12_isTrouble, 4, (some .boolean), 4)
theorem caX12_isTrouble : CallA mX12_isTrouble 3 := ⟨gws_in 1709 (by decide +kernel) (by decide +kernel), gws_in 99 (by decide +kernel) (by decide +kernel), (by decide +kernel), by decide⟩
abbrev mX12_trouble : Md := (yX12_trouble, cX12_trouble, 5, (some .int), 5)
theorem caX12_trouble : CallA mX12_trouble 2 := ⟨gws_in 1704 (by decide +kernel) (by decide +kernel), gws_in 99 (by decide +kernel) (by decide +kernel), (by decide +kernel), by decide⟩
abbrev mX12_canPost : Md := (yX12_canPost, cX12_canPost, 2, (some .boolean), 4)
theorem caX12_canPost : CallA mX12_canPost 1 := ⟨gws_in 1737 (by decide +kernel) (by decide +kernel), gws_in 99 (by decide +kernel) (by decide +kernel), (by decide +kernel), by decide⟩
abbrev mX12_noSet : Md := (yX12_noSet, cX12_noSet, 2, (some .boolean), 1)
theorem caX12_noSet : CallA mX12_noSet 1 := ⟨gws_in 1733 (by decide +kernel) (by decide +kernel), gws_in 99 (by decide +kernel) (by decide +kernel), (by decide +kernel), by decide⟩
abbrev mX12_posted : Md := (yX12_posted, cX12_posted, 3, (some .int), 9)
theorem caX12_posted : CallA mX12_posted 1 := ⟨gws_in 1729 (by decide +kernel) (by decide +kernel), gws_in 99 (by decide +kernel) (by decide +kernel), (by decide +kernel), by decide⟩
abbrev mX12_tryPosting : Md := (yX12_tryPosting, cX12_tryPosting, 9, none, 9)
theorem caX12_tryPosting : CallA mX12_tryPosting 1 := ⟨gws_in 1746 (by decide +kernel) (by decide +kernel), gws_in 99 (by decide +kernel) (by decide +kernel), (by decide +kernel), by decide⟩
abbrev mX12_posting : Md := (yX12_posting, cX12_posting, 3, (some .int), 10)
theorem caX12_posting : CallA mX12_posting 2 := ⟨gws_in 1741 (by decide +kernel) (by decide +kernel), gws_in 99 (by decide +kernel) (by decide +kernel), (by decide +kernel), by decide⟩
abbrev mX12_lossOf : Md := (yX12_lossOf, cX12_lossOf, 3, (some .int), 3)
theorem caX12_lossOf : CallA mX12_lossOf 2 := ⟨gws_in 1764 (by decide +kernel) (by decide +kernel), gws_in 99 (by decide +kernel) (by decide +kernel), (by decide +kernel), by decide⟩
abbrev mX12_fitHead : Md := (yX12_fitHead, cX12_fitHead, 10, none, 4)
theorem caX12_fitHead : CallA mX12_fitHead 4 := ⟨gws_in 1760 (by decide +kernel) (by decide +kernel), gws_in 99 (by decide +kernel) (by decide +kernel), (by decide +kernel), by decide⟩
abbrev mX12_fitAll : Md := (yX12_fitAll, cX12_fitAll, 4, none, 8)
theorem caX12_fitAll : CallA mX12_fitAll 1 := ⟨gws_in 1755 (by decide +kernel) (by decide +kernel), gws_in 99 (by decide +kernel) (by decide +kernel), (by decide +kernel), by decide⟩
abbrev mX12_fit : Md := (yX12_fit, cX12_fit, 6, (some .int), 9)
theorem caX12_fit : CallA mX12_fit 2 := ⟨gws_in 1750 (by decide +kernel) (by decide +kernel), gws_in 99 (by decide +kernel) (by decide +kernel), (by decide +kernel), by decide⟩
abbrev mX12_putIn : Md := (yX12_putIn, cX12_putIn, 5, (some .int), 1)
theorem caX12_putIn : CallA mX12_putIn 2 := ⟨gws_in 1768 (by decide +kernel) (by decide +kernel), gws_in 99 (by decide +kernel) (by decide +kernel), (by decide +kernel), by decide⟩
abbrev mX12_takeOut : Md := (yX12_takeOut, cX12_takeOut, 5, (some .int), 2)
theorem caX12_takeOut : CallA mX12_takeOut 2 := ⟨gws_in 1772 (by decide +kernel) (by decide +kernel), gws_in 99 (by decide +kernel) (by decide +kernel), (by decide +kernel), by decide⟩
abbrev mX12_saw : Md := (yX12_saw, cX12_saw, 3, (some .int), 2)
theorem caX12_saw : CallA mX12_saw 2 := ⟨gws_in 1776 (by decide +kernel) (by decide +kernel), gws_in 99 (by decide +kernel) (by decide +kernel), (by decide +kernel), by decide⟩
abbrev mX12_forget : Md := (yX12_forget, cX12_forget, 2, (some .int), 0)
theorem caX12_forget : CallA mX12_forget 0 := ⟨gws_in 1781 (by decide +kernel) (by decide +kernel), gws_in 99 (by decide +kernel) (by decide +kernel), (by decide +kernel), by decide⟩
abbrev mX12_standing : Md := (yX12_standing, cX12_standing, 5, (some .int), 0)
theorem caX12_standing : CallA mX12_standing 3 := ⟨gws_in 1789 (by decide +kernel) (by decide +kernel), gws_in 99 (by decide +kernel) (by decide +kernel), (by decide +kernel), by decide⟩
abbrev mX12_leaving : Md := (yX12_leaving, cX12_leaving, 3, (some .int), 0)
theorem caX12_leaving : CallA mX12_leaving 2 := ⟨gws_in 1793 (by decide +kernel) (by decide +kernel), gws_in 99 (by decide +kernel) (by decide +kernel), (by decide +kernel), by decide⟩
abbrev mX12_story : Md := (yX12_story, cX12_story, 7, (some .int), 1)
theorem caX12_story : CallA mX12_story 2 := ⟨gws_in 1785 (by decide +kernel) (by decide +kernel), gws_in 99 (by decide +kernel) (by decide +kernel), (by decide +kernel), by decide⟩
abbrev mX12_bareSize : Md := (yX12_bareSize, cX12_bareSize, 4, (some .int), 1)
theorem caX12_bareSize : CallA mX12_bareSize 1 := ⟨gws_in 1801 (by decide +kernel) (by decide +kernel), gws_in 99 (by decide +kernel) (by decide +kernel), (by decide +kernel), by decide⟩
abbrev mX12_bareAt : Md := (yX12_bareAt, cX12_bareAt, 6, (some .int), 1)
theorem caX12_bareAt : CallA mX12_bareAt 2 := ⟨gws_in 1809 (by decide +kernel) (by decide +kernel), gws_in 99 (by decide +kernel) (by decide +kernel), (by decide +kernel), by decide⟩
abbrev mX12_headAlike : Md := (yX12_headAlike, cX12_headAlike, 4, (some .int), 2)
theorem caX12_headAlike : CallA mX12_headAlike 2 := ⟨gws_in 1805 (by decide +kernel) (by decide +kernel), gws_in 99 (by decide +kernel) (by decide +kernel), (by decide +kernel), by decide⟩
abbrev mX12_tailAlike : Md := (yX12_tailAlike, cX12_tailAlike, 6, (some .int), 2)
theorem caX12_tailAlike : CallA mX12_tailAlike 2 := ⟨gws_in 1817 (by decide +kernel) (by decide +kernel), gws_in 99 (by decide +kernel) (by decide +kernel), (by decide +kernel), by decide⟩
abbrev mX12_isPlural : Md := (yX12_isPlural, cX12_isPlural, 4, (some .boolean), 3)
theorem caX12_isPlural : CallA mX12_isPlural 2 := ⟨gws_in 1813 (by decide +kernel) (by decide +kernel), gws_in 99 (by decide +kernel) (by decide +kernel), (by decide +kernel), by decide⟩
abbrev mX12_near : Md := (yX12_near, cX12_near, 11, (some .int), 4)
theorem caX12_near : CallA mX12_near 2 := ⟨gws_in 1797 (by decide +kernel) (by decide +kernel), gws_in 99 (by decide +kernel) (by decide +kernel), (by decide +kernel), by decide⟩
abbrev mX12_likeSub : Md := (yX12_likeSub, cX12_likeSub, 7, (some .int), 1)
theorem caX12_likeSub : CallA mX12_likeSub 2 := ⟨gws_in 1825 (by decide +kernel) (by decide +kernel), gws_in 99 (by decide +kernel) (by decide +kernel), (by decide +kernel), by decide⟩
abbrev mX12_copyWord : Md := (yX12_copyWord, cX12_copyWord, 4, none, 0)
theorem caX12_copyWord : CallA mX12_copyWord 2 := ⟨gws_in 1829 (by decide +kernel) (by decide +kernel), gws_in 99 (by decide +kernel) (by decide +kernel), (by decide +kernel), by decide⟩
abbrev mX12_join : Md := (yX12_join, cX12_join, 5, (some .int), 2)
theorem caX12_join : CallA mX12_join 2 := ⟨gws_in 1821 (by decide +kernel) (by decide +kernel), gws_in 99 (by decide +kernel) (by decide +kernel), (by decide +kernel), by decide⟩
abbrev mX12_keepAt : Md := (yX12_keepAt, cX12_keepAt, 3, none, 0)
theorem caX12_keepAt : CallA mX12_keepAt 1 := ⟨gws_in 1394 (by decide +kernel) (by decide +kernel), gws_in 99 (by decide +kernel) (by decide +kernel), (by decide +kernel), by decide⟩
abbrev mX12_backTo : Md := (yX12_backTo, cX12_backTo, 3, none, 0)
theorem caX12_backTo : CallA mX12_backTo 1 := ⟨gws_in 1476 (by decide +kernel) (by decide +kernel), gws_in 99 (by decide +kernel) (by decide +kernel), (by decide +kernel), by decide⟩
abbrev mX12_keep : Md := (yX12_keep, cX12_keep, 2, (some .int), 1)
theorem caX12_keep : CallA mX12_keep 1 := ⟨gws_in 1833 (by decide +kernel) (by decide +kernel), gws_in 99 (by decide +kernel) (by decide +kernel), (by decide +kernel), by decide⟩
abbrev mX12_goBack : Md := (yX12_goBack, cX12_goBack, 2, (some .int), 1)
theorem caX12_goBack : CallA mX12_goBack 1 := ⟨gws_in 1837 (by decide +kernel) (by decide +kernel), gws_in 99 (by decide +kernel) (by decide +kernel), (by decide +kernel), by decide⟩
abbrev mX12_isKeptWord : Md := (yX12_isKeptWord, cX12_isKeptWord, 6, (some .boolean), 0)
theorem caX12_isKeptWord : CallA mX12_isKeptWord 3 := ⟨gws_in 1849 (by decide +kernel) (by decide +kernel), gws_in 99 (by decide +kernel) (by decide +kernel), (by decide +kernel), by decide⟩
abbrev mX12_headLike : Md := (yX12_headLike, cX12_headLike, 4, (some .int), 1)
theorem caX12_headLike : CallA mX12_headLike 2 := ⟨gws_in 1845 (by decide +kernel) (by decide +kernel), gws_in 99 (by decide +kernel) (by decide +kernel), (by decide +kernel), by decide⟩
abbrev mX12_subLike : Md := (yX12_subLike, cX12_subLike, 6, (some .int), 1)
theorem caX12_subLike : CallA mX12_subLike 4 := ⟨gws_in 1853 (by decide +kernel) (by decide +kernel), gws_in 99 (by decide +kernel) (by decide +kernel), (by decide +kernel), by decide⟩
abbrev mX12_tickOld : Md := (yX12_tickOld, cX12_tickOld, 7, none, 0)
theorem caX12_tickOld : CallA mX12_tickOld 3 := ⟨gws_in 1857 (by decide +kernel) (by decide +kernel), gws_in 99 (by decide +kernel) (by decide +kernel), (by decide +kernel), by decide⟩
abbrev mX12_staleRuns : Md := (yX12_staleRuns, cX12_staleRuns, 6, (some .int), 1)
theorem caX12_staleRuns : CallA mX12_staleRuns 0 := ⟨gws_in 1861 (by decide +kernel) (by decide +kernel), gws_in 99 (by decide +kernel) (by decide +kernel), (by decide +kernel), by decide⟩
abbrev mX12_stale : Md := (yX12_stale, cX12_stale, 7, (some .int), 2)
theorem caX12_stale : CallA mX12_stale 1 := ⟨gws_in 1841 (by decide +kernel) (by decide +kernel), gws_in 99 (by decide +kernel) (by decide +kernel), (by decide +kernel), by decide⟩
abbrev mJ6_bitCount_0f7a4 : Md := (yJ6_bitCount_0f7a4, cJ6_bitCount_0f7a4, 1, (some .int), 0)
theorem caJ6_bitCount_0f7a4 : CallA mJ6_bitCount_0f7a4 1 := ⟨gws_in 811 (by decide +kernel) (by decide +kernel), gws_in 106 (by decide +kernel) (by decide +kernel), (by decide +kernel), by decide⟩
abbrev mJ13_bitCount_95d88 : Md := (yJ13_bitCount_95d88, cJ13_bitCount_95d88, 2, (some .int), 0)
theorem caJ13_bitCount_95d88 : CallA mJ13_bitCount_95d88 1 := ⟨gws_in 934 (by decide +kernel) (by decide +kernel), gws_in 107 (by decide +kernel) (by decide +kernel), (by decide +kernel), by decide⟩
abbrev mJ9_max_7cf53 : Md := (yJ9_max_7cf53, cJ9_max_7cf53, 2, (some .int), 0)
theorem caJ9_max_7cf53 : CallA mJ9_max_7cf53 2 := ⟨gws_in 309 (by decide +kernel) (by decide +kernel), gws_in 94 (by decide +kernel) (by decide +kernel), (by decide +kernel), by decide⟩
abbrev mJ9_min_7cf53 : Md := (yJ9_min_7cf53, cJ9_min_7cf53, 2, (some .int), 0)
theorem caJ9_min_7cf53 : CallA mJ9_min_7cf53 2 := ⟨gws_in 756 (by decide +kernel) (by decide +kernel), gws_in 94 (by decide +kernel) (by decide +kernel), (by decide +kernel), by decide⟩
abbrev mJ0_length_8abf5 : Md := (yJ0_length_8abf5, cJ0_length_8abf5, 1, (some .int), 1)
theorem caJ0_length_8abf5 : CallA mJ0_length_8abf5 0 := ⟨gws_in 526 (by decide +kernel) (by decide +kernel), gws_in 100 (by decide +kernel) (by decide +kernel), (by decide +kernel), by decide⟩
abbrev mJ0_charAt_5068e : Md := (yJ0_charAt_5068e, cJ0_charAt_5068e, 2, (some .char), 4)
theorem caJ0_charAt_5068e : CallA mJ0_charAt_5068e 1 := ⟨gws_in 536 (by decide +kernel) (by decide +kernel), gws_in 100 (by decide +kernel) (by decide +kernel), (by decide +kernel), by decide⟩
abbrev mJ0_coder_7d493 : Md := (yJ0_coder_7d493, cJ0_coder_7d493, 1, (some .byte), 0)
theorem caJ0_coder_7d493 : CallA mJ0_coder_7d493 0 := ⟨gws_in 530 (by decide +kernel) (by decide +kernel), gws_in 100 (by decide +kernel) (by decide +kernel), (by decide +kernel), by decide⟩
abbrev mJ0_isLatin1_aae02 : Md := (yJ0_isLatin1_aae02, cJ0_isLatin1_aae02, 1, (some .boolean), 0)
theorem caJ0_isLatin1_aae02 : CallA mJ0_isLatin1_aae02 0 := ⟨gws_in 540 (by decide +kernel) (by decide +kernel), gws_in 100 (by decide +kernel) (by decide +kernel), (by decide +kernel), by decide⟩
abbrev mJ0_checkIndex_df160 : Md := (yJ0_checkIndex_df160, cJ0_checkIndex_df160, 2, none, 1)
theorem caJ0_checkIndex_df160 : CallA mJ0_checkIndex_df160 2 := ⟨gws_in 546 (by decide +kernel) (by decide +kernel), gws_in 100 (by decide +kernel) (by decide +kernel), (by decide +kernel), by decide⟩
abbrev mJ1_charAt_3b067 : Md := (yJ1_charAt_3b067, cJ1_charAt_3b067, 2, (some .char), 2)
theorem caJ1_charAt_3b067 : CallA mJ1_charAt_3b067 2 := ⟨gws_in 543 (by decide +kernel) (by decide +kernel), gws_in 101 (by decide +kernel) (by decide +kernel), (by decide +kernel), by decide⟩
abbrev mJ2_getChar_3b067 : Md := (yJ2_getChar_3b067, cJ2_getChar_3b067, 2, (some .char), 1)
theorem caJ2_getChar_3b067 : CallA mJ2_getChar_3b067 2 := ⟨gws_in 564 (by decide +kernel) (by decide +kernel), gws_in 103 (by decide +kernel) (by decide +kernel), (by decide +kernel), by decide⟩
abbrev mJ2_length_9d52b : Md := (yJ2_length_9d52b, cJ2_length_9d52b, 1, (some .int), 0)
theorem caJ2_length_9d52b : CallA mJ2_length_9d52b 1 := ⟨gws_in 560 (by decide +kernel) (by decide +kernel), gws_in 103 (by decide +kernel) (by decide +kernel), (by decide +kernel), by decide⟩
abbrev mJ2_charAt_3b067 : Md := (yJ2_charAt_3b067, cJ2_charAt_3b067, 2, (some .char), 3)
theorem caJ2_charAt_3b067 : CallA mJ2_charAt_3b067 2 := ⟨gws_in 554 (by decide +kernel) (by decide +kernel), gws_in 103 (by decide +kernel) (by decide +kernel), (by decide +kernel), by decide⟩
abbrev mJ2_checkIndex_2214a : Md := (yJ2_checkIndex_2214a, cJ2_checkIndex_2214a, 2, none, 2)
theorem caJ2_checkIndex_2214a : CallA mJ2_checkIndex_2214a 2 := ⟨gws_in 557 (by decide +kernel) (by decide +kernel), gws_in 103 (by decide +kernel) (by decide +kernel), (by decide +kernel), by decide⟩
abbrev mJ3_checkIndex_8e157 : Md := (yJ3_checkIndex_8e157, cJ3_checkIndex_8e157, 3, (some .int), 0)
theorem caJ3_checkIndex_8e157 : CallA mJ3_checkIndex_8e157 3 := ⟨gws_in 551 (by decide +kernel) (by decide +kernel), gws_in 102 (by decide +kernel) (by decide +kernel), (by decide +kernel), by decide⟩
theorem cvX0_64 : CallV RX0 64 mX0_hasHead 0 1 := ⟨caX0_hasHead, gws_in 625 (by decide +kernel) (by decide +kernel), gws_in 626 (by decide +kernel) (by decide +kernel), gws_in 627 (by decide +kernel) (by decide +kernel), rfl⟩
theorem cvX0_68 : CallV RX0 68 mX0_moveMark 0 2 := ⟨caX0_moveMark, gws_in 857 (by decide +kernel) (by decide +kernel), gws_in 858 (by decide +kernel) (by decide +kernel), gws_in 859 (by decide +kernel) (by decide +kernel), rfl⟩
theorem cvX0_72 : CallV RX0 72 mX7_clear 7 0 := ⟨caX7_clear, gws_in 746 (by decide +kernel) (by decide +kernel), gws_in 747 (by decide +kernel) (by decide +kernel), gws_in 748 (by decide +kernel) (by decide +kernel), rfl⟩
theorem cvX0_77 : CallV RX0 77 mX7_put 7 3 := ⟨caX7_put, gws_in 750 (by decide +kernel) (by decide +kernel), gws_in 751 (by decide +kernel) (by decide +kernel), gws_in 752 (by decide +kernel) (by decide +kernel), rfl⟩
theorem cvX0_81 : CallN RX0 81 mX11_isIn 2 := ⟨caX11_isIn, gws_in 658 (by decide +kernel) (by decide +kernel), "BackPages", List.mem_of_getElem? (i := 13) rfl⟩
theorem cvX0_85 : CallS RX0 85 mJ9_max_7cf53 2 := ⟨caJ9_max_7cf53, gws_in 1037 (by decide +kernel) (by decide +kernel), gws_in 308 (by decide +kernel) (by decide +kernel)⟩
theorem cvX0_91 : CallS RX0 91 mJ9_min_7cf53 2 := ⟨caJ9_min_7cf53, gws_in 1050 (by decide +kernel) (by decide +kernel), gws_in 755 (by decide +kernel) (by decide +kernel)⟩
theorem cvX0_94 : CallV RX0 94 mX0_wordOf 0 2 := ⟨caX0_wordOf, gws_in 1141 (by decide +kernel) (by decide +kernel), gws_in 791 (by decide +kernel) (by decide +kernel), gws_in 792 (by decide +kernel) (by decide +kernel), rfl⟩
theorem cvX0_98 : CallV RX0 98 mX0_findSub 0 2 := ⟨caX0_findSub, gws_in 1142 (by decide +kernel) (by decide +kernel), gws_in 622 (by decide +kernel) (by decide +kernel), gws_in 623 (by decide +kernel) (by decide +kernel), rfl⟩
theorem cvX0_102 : CallV RX0 102 mX0_giveMarks 0 4 := ⟨caX0_giveMarks, gws_in 1147 (by decide +kernel) (by decide +kernel), gws_in 1148 (by decide +kernel) (by decide +kernel), gws_in 1149 (by decide +kernel) (by decide +kernel), rfl⟩
theorem cvX0_106 : CallV RX0 106 mX0_putSub 0 2 := ⟨caX0_putSub, gws_in 1151 (by decide +kernel) (by decide +kernel), gws_in 630 (by decide +kernel) (by decide +kernel), gws_in 631 (by decide +kernel) (by decide +kernel), rfl⟩
theorem cvX1_29 : CallV RX1 29 mX1_mostNeeded 1 1 := ⟨caX1_mostNeeded, gws_in 1011 (by decide +kernel) (by decide +kernel), gws_in 1012 (by decide +kernel) (by decide +kernel), gws_in 1013 (by decide +kernel) (by decide +kernel), rfl⟩
theorem cvX1_33 : CallS RX1 33 mJ9_min_7cf53 2 := ⟨caJ9_min_7cf53, gws_in 1016 (by decide +kernel) (by decide +kernel), gws_in 755 (by decide +kernel) (by decide +kernel)⟩
theorem cvX1_39 : CallV RX1 39 mX1_leastFrom 1 2 := ⟨caX1_leastFrom, gws_in 1017 (by decide +kernel) (by decide +kernel), gws_in 1018 (by decide +kernel) (by decide +kernel), gws_in 1019 (by decide +kernel) (by decide +kernel), rfl⟩
theorem cvX1_42 : CallV RX1 42 mX1_follow 1 2 := ⟨caX1_follow, gws_in 1025 (by decide +kernel) (by decide +kernel), gws_in 1026 (by decide +kernel) (by decide +kernel), gws_in 1027 (by decide +kernel) (by decide +kernel), rfl⟩
theorem cvX1_46 : CallS RX1 46 mJ9_max_7cf53 2 := ⟨caJ9_max_7cf53, gws_in 1015 (by decide +kernel) (by decide +kernel), gws_in 308 (by decide +kernel) (by decide +kernel)⟩
theorem cvX1_49 : CallV RX1 49 mX1_lossBy 1 3 := ⟨caX1_lossBy, gws_in 1021 (by decide +kernel) (by decide +kernel), gws_in 1022 (by decide +kernel) (by decide +kernel), gws_in 1023 (by decide +kernel) (by decide +kernel), rfl⟩
theorem cvX2_34 : CallS RX2 34 mX2_below 1 := ⟨caX2_below, gws_in 923 (by decide +kernel) (by decide +kernel), gws_in 924 (by decide +kernel) (by decide +kernel)⟩
theorem cvX2_40 : CallN RX2 40 mX11_isIn 2 := ⟨caX11_isIn, gws_in 658 (by decide +kernel) (by decide +kernel), "BackPages", List.mem_of_getElem? (i := 14) rfl⟩
theorem cvX2_44 : CallS RX2 44 mJ13_bitCount_95d88 1 := ⟨caJ13_bitCount_95d88, gws_in 932 (by decide +kernel) (by decide +kernel), gws_in 933 (by decide +kernel) (by decide +kernel)⟩
theorem cvX3_34 : CallV RX3 34 mX0_filledHeads 0 0 := ⟨caX0_filledHeads, gws_in 963 (by decide +kernel) (by decide +kernel), gws_in 806 (by decide +kernel) (by decide +kernel), gws_in 807 (by decide +kernel) (by decide +kernel), rfl⟩
theorem cvX3_43 : CallV RX3 43 mX0_stepsToFilled 0 2 := ⟨caX0_stepsToFilled, gws_in 964 (by decide +kernel) (by decide +kernel), gws_in 895 (by decide +kernel) (by decide +kernel), gws_in 896 (by decide +kernel) (by decide +kernel), rfl⟩
theorem cvX3_47 : CallN RX3 47 mX11_isIn 2 := ⟨caX11_isIn, gws_in 658 (by decide +kernel) (by decide +kernel), "BackPages", List.mem_of_getElem? (i := 15) rfl⟩
theorem cvX4_41 : CallV RX4 41 mX6_sort 6 4 := ⟨caX6_sort, gws_in 698 (by decide +kernel) (by decide +kernel), gws_in 699 (by decide +kernel) (by decide +kernel), gws_in 700 (by decide +kernel) (by decide +kernel), rfl⟩
theorem cvX4_60 : CallV RX4 60 mX0_marksOf 0 1 := ⟨caX0_marksOf, gws_in 714 (by decide +kernel) (by decide +kernel), gws_in 715 (by decide +kernel) (by decide +kernel), gws_in 716 (by decide +kernel) (by decide +kernel), rfl⟩
theorem cvX4_64 : CallV RX4 64 mX8_putWord 8 1 := ⟨caX8_putWord, gws_in 718 (by decide +kernel) (by decide +kernel), gws_in 719 (by decide +kernel) (by decide +kernel), gws_in 720 (by decide +kernel) (by decide +kernel), rfl⟩
theorem cvX4_68 : CallV RX4 68 mX4_setRuns 4 4 := ⟨caX4_setRuns, gws_in 730 (by decide +kernel) (by decide +kernel), gws_in 731 (by decide +kernel) (by decide +kernel), gws_in 732 (by decide +kernel) (by decide +kernel), rfl⟩
theorem cvX4_72 : CallV RX4 72 mX0_markedSubs 0 1 := ⟨caX0_markedSubs, gws_in 774 (by decide +kernel) (by decide +kernel), gws_in 775 (by decide +kernel) (by decide +kernel), gws_in 776 (by decide +kernel) (by decide +kernel), rfl⟩
theorem cvX4_75 : CallV RX4 75 mX4_arrangeSubs 4 3 := ⟨caX4_arrangeSubs, gws_in 778 (by decide +kernel) (by decide +kernel), gws_in 779 (by decide +kernel) (by decide +kernel), gws_in 780 (by decide +kernel) (by decide +kernel), rfl⟩
theorem cvX4_82 : CallN RX4 82 mX11_isIn 2 := ⟨caX11_isIn, gws_in 658 (by decide +kernel) (by decide +kernel), "BackPages", List.mem_of_getElem? (i := 12) rfl⟩
theorem cvX4_88 : CallV RX4 88 mX8_putText 8 1 := ⟨caX8_putText, gws_in 784 (by decide +kernel) (by decide +kernel), gws_in 785 (by decide +kernel) (by decide +kernel), gws_in 786 (by decide +kernel) (by decide +kernel), rfl⟩
theorem cvX4_92 : CallV RX4 92 mX0_wordOf 0 2 := ⟨caX0_wordOf, gws_in 790 (by decide +kernel) (by decide +kernel), gws_in 791 (by decide +kernel) (by decide +kernel), gws_in 792 (by decide +kernel) (by decide +kernel), rfl⟩
theorem cvX4_98 : CallV RX4 98 mX4_setSee 4 4 := ⟨caX4_setSee, gws_in 795 (by decide +kernel) (by decide +kernel), gws_in 796 (by decide +kernel) (by decide +kernel), gws_in 797 (by decide +kernel) (by decide +kernel), rfl⟩
theorem cvX4_107 : CallV RX4 107 mX8_endRow 8 0 := ⟨caX8_endRow, gws_in 769 (by decide +kernel) (by decide +kernel), gws_in 770 (by decide +kernel) (by decide +kernel), gws_in 771 (by decide +kernel) (by decide +kernel), rfl⟩
theorem cvX4_110 : CallV RX4 110 mX4_setAlso 4 3 := ⟨caX4_setAlso, gws_in 800 (by decide +kernel) (by decide +kernel), gws_in 801 (by decide +kernel) (by decide +kernel), gws_in 802 (by decide +kernel) (by decide +kernel), rfl⟩
theorem cvX4_114 : CallV RX4 114 mX8_placeUnit 8 0 := ⟨caX8_placeUnit, gws_in 734 (by decide +kernel) (by decide +kernel), gws_in 735 (by decide +kernel) (by decide +kernel), gws_in 736 (by decide +kernel) (by decide +kernel), rfl⟩
theorem cvX4_117 : CallV RX4 117 mX0_gatherRuns 0 3 := ⟨caX0_gatherRuns, gws_in 742 (by decide +kernel) (by decide +kernel), gws_in 743 (by decide +kernel) (by decide +kernel), gws_in 744 (by decide +kernel) (by decide +kernel), rfl⟩
theorem cvX4_134 : CallV RX4 134 mX8_putRun 8 3 := ⟨caX8_putRun, gws_in 761 (by decide +kernel) (by decide +kernel), gws_in 762 (by decide +kernel) (by decide +kernel), gws_in 763 (by decide +kernel) (by decide +kernel), rfl⟩
theorem cvX5_44 : CallV RX5 44 mX0_clear 0 0 := ⟨caX0_clear, gws_in 491 (by decide +kernel) (by decide +kernel), gws_in 492 (by decide +kernel) (by decide +kernel), gws_in 493 (by decide +kernel) (by decide +kernel), rfl⟩
theorem cvX5_47 : CallV RX5 47 mX5_skipBlanks 5 0 := ⟨caX5_skipBlanks, gws_in 499 (by decide +kernel) (by decide +kernel), gws_in 500 (by decide +kernel) (by decide +kernel), gws_in 501 (by decide +kernel) (by decide +kernel), rfl⟩
theorem cvX5_50 : CallS RX5 50 mX5_isLetter 1 := ⟨caX5_isLetter, gws_in 511 (by decide +kernel) (by decide +kernel), gws_in 512 (by decide +kernel) (by decide +kernel)⟩
theorem cvX5_54 : CallS RX5 54 mX5_isFigure 1 := ⟨caX5_isFigure, gws_in 637 (by decide +kernel) (by decide +kernel), gws_in 638 (by decide +kernel) (by decide +kernel)⟩
theorem cvX5_66 : CallV RX5 66 mX5_skipWord 5 0 := ⟨caX5_skipWord, gws_in 507 (by decide +kernel) (by decide +kernel), gws_in 508 (by decide +kernel) (by decide +kernel), gws_in 509 (by decide +kernel) (by decide +kernel), rfl⟩
theorem cvX5_69 : CallV RX5 69 mX5_kindOf 5 2 := ⟨caX5_kindOf, gws_in 514 (by decide +kernel) (by decide +kernel), gws_in 515 (by decide +kernel) (by decide +kernel), gws_in 516 (by decide +kernel) (by decide +kernel), rfl⟩
theorem cvX5_73 : CallV RX5 73 mX5_fail 5 2 := ⟨caX5_fail, gws_in 574 (by decide +kernel) (by decide +kernel), gws_in 575 (by decide +kernel) (by decide +kernel), gws_in 576 (by decide +kernel) (by decide +kernel), rfl⟩
theorem cvX5_76 : CallV RX5 76 mX5_isOneTooMany 5 1 := ⟨caX5_isOneTooMany, gws_in 578 (by decide +kernel) (by decide +kernel), gws_in 579 (by decide +kernel) (by decide +kernel), gws_in 580 (by decide +kernel) (by decide +kernel), rfl⟩
theorem cvX5_79 : CallV RX5 79 mX5_readMark 5 0 := ⟨caX5_readMark, gws_in 582 (by decide +kernel) (by decide +kernel), gws_in 583 (by decide +kernel) (by decide +kernel), gws_in 584 (by decide +kernel) (by decide +kernel), rfl⟩
theorem cvX5_82 : CallV RX5 82 mX5_readAsked 5 0 := ⟨caX5_readAsked, gws_in 653 (by decide +kernel) (by decide +kernel), gws_in 654 (by decide +kernel) (by decide +kernel), gws_in 655 (by decide +kernel) (by decide +kernel), rfl⟩
theorem cvX5_85 : CallV RX5 85 mX5_readLink 5 1 := ⟨caX5_readLink, gws_in 670 (by decide +kernel) (by decide +kernel), gws_in 671 (by decide +kernel) (by decide +kernel), gws_in 672 (by decide +kernel) (by decide +kernel), rfl⟩
theorem cvX5_89 : CallV RX5 89 mX5_readEnd 5 0 := ⟨caX5_readEnd, gws_in 674 (by decide +kernel) (by decide +kernel), gws_in 675 (by decide +kernel) (by decide +kernel), gws_in 676 (by decide +kernel) (by decide +kernel), rfl⟩
theorem cvX5_94 : CallV RX5 94 mX5_isWord 5 3 := ⟨caX5_isWord, gws_in 519 (by decide +kernel) (by decide +kernel), gws_in 520 (by decide +kernel) (by decide +kernel), gws_in 521 (by decide +kernel) (by decide +kernel), rfl⟩
theorem cvX5_107 : CallV RX5 107 mX5_byteHere 5 0 := ⟨caX5_byteHere, gws_in 594 (by decide +kernel) (by decide +kernel), gws_in 595 (by decide +kernel) (by decide +kernel), gws_in 596 (by decide +kernel) (by decide +kernel), rfl⟩
theorem cvX5_110 : CallV RX5 110 mX5_readHead 5 0 := ⟨caX5_readHead, gws_in 586 (by decide +kernel) (by decide +kernel), gws_in 587 (by decide +kernel) (by decide +kernel), gws_in 588 (by decide +kernel) (by decide +kernel), rfl⟩
theorem cvX5_113 : CallV RX5 113 mX5_readSub 5 1 := ⟨caX5_readSub, gws_in 617 (by decide +kernel) (by decide +kernel), gws_in 618 (by decide +kernel) (by decide +kernel), gws_in 619 (by decide +kernel) (by decide +kernel), rfl⟩
theorem cvX5_117 : CallV RX5 117 mX5_readNumber 5 2 := ⟨caX5_readNumber, gws_in 633 (by decide +kernel) (by decide +kernel), gws_in 634 (by decide +kernel) (by decide +kernel), gws_in 635 (by decide +kernel) (by decide +kernel), rfl⟩
theorem cvX5_120 : CallV RX5 120 mX5_readMain 5 0 := ⟨caX5_readMain, gws_in 644 (by decide +kernel) (by decide +kernel), gws_in 645 (by decide +kernel) (by decide +kernel), gws_in 646 (by decide +kernel) (by decide +kernel), rfl⟩
theorem cvX5_124 : CallV RX5 124 mX0_putMark 0 5 := ⟨caX0_putMark, gws_in 649 (by decide +kernel) (by decide +kernel), gws_in 650 (by decide +kernel) (by decide +kernel), gws_in 651 (by decide +kernel) (by decide +kernel), rfl⟩
theorem cvX5_133 : CallV RX5 133 mX5_wordPlace 5 1 := ⟨caX5_wordPlace, gws_in 660 (by decide +kernel) (by decide +kernel), gws_in 661 (by decide +kernel) (by decide +kernel), gws_in 662 (by decide +kernel) (by decide +kernel), rfl⟩
theorem cvX5_138 : CallN RX5 138 mX11_isIn 2 := ⟨caX11_isIn, gws_in 658 (by decide +kernel) (by decide +kernel), "BackPages", List.mem_of_getElem? (i := 11) rfl⟩
theorem cvX5_149 : CallS RX5 149 mX10_lengthOf 1 := ⟨caX10_lengthOf, gws_in 664 (by decide +kernel) (by decide +kernel), gws_in 665 (by decide +kernel) (by decide +kernel)⟩
theorem cvX5_155 : CallV RX5 155 mX5_wordStart 5 0 := ⟨caX5_wordStart, gws_in 590 (by decide +kernel) (by decide +kernel), gws_in 591 (by decide +kernel) (by decide +kernel), gws_in 592 (by decide +kernel) (by decide +kernel), rfl⟩
theorem cvX5_158 : CallV RX5 158 mX5_packWord 5 1 := ⟨caX5_packWord, gws_in 602 (by decide +kernel) (by decide +kernel), gws_in 603 (by decide +kernel) (by decide +kernel), gws_in 604 (by decide +kernel) (by decide +kernel), rfl⟩
theorem cvX5_162 : CallV RX5 162 mX0_findHead 0 1 := ⟨caX0_findHead, gws_in 609 (by decide +kernel) (by decide +kernel), gws_in 610 (by decide +kernel) (by decide +kernel), gws_in 611 (by decide +kernel) (by decide +kernel), rfl⟩
theorem cvX5_165 : CallV RX5 165 mX0_putHead 0 1 := ⟨caX0_putHead, gws_in 613 (by decide +kernel) (by decide +kernel), gws_in 614 (by decide +kernel) (by decide +kernel), gws_in 615 (by decide +kernel) (by decide +kernel), rfl⟩
theorem cvX5_168 : CallV RX5 168 mX0_findSub 0 2 := ⟨caX0_findSub, gws_in 621 (by decide +kernel) (by decide +kernel), gws_in 622 (by decide +kernel) (by decide +kernel), gws_in 623 (by decide +kernel) (by decide +kernel), rfl⟩
theorem cvX5_172 : CallV RX5 172 mX0_putSub 0 2 := ⟨caX0_putSub, gws_in 629 (by decide +kernel) (by decide +kernel), gws_in 630 (by decide +kernel) (by decide +kernel), gws_in 631 (by decide +kernel) (by decide +kernel), rfl⟩
theorem cvX5_175 : CallV RX5 175 mX5_isFit 5 2 := ⟨caX5_isFit, gws_in 598 (by decide +kernel) (by decide +kernel), gws_in 599 (by decide +kernel) (by decide +kernel), gws_in 600 (by decide +kernel) (by decide +kernel), rfl⟩
theorem cvX5_178 : CallS RX5 178 mX10_codeAt 2 := ⟨caX10_codeAt, gws_in 606 (by decide +kernel) (by decide +kernel), gws_in 607 (by decide +kernel) (by decide +kernel)⟩
theorem cvX5_182 : CallV RX5 182 mX5_skipNumber 5 0 := ⟨caX5_skipNumber, gws_in 640 (by decide +kernel) (by decide +kernel), gws_in 641 (by decide +kernel) (by decide +kernel), gws_in 642 (by decide +kernel) (by decide +kernel), rfl⟩
theorem cvX6_19 : CallS RX6 19 mX10_withoutLines 1 := ⟨caX10_withoutLines, gws_in 702 (by decide +kernel) (by decide +kernel), gws_in 703 (by decide +kernel) (by decide +kernel)⟩
theorem cvX7_26 : CallS RX7 26 mJ9_min_7cf53 2 := ⟨caJ9_min_7cf53, gws_in 754 (by decide +kernel) (by decide +kernel), gws_in 755 (by decide +kernel) (by decide +kernel)⟩
theorem cvX7_32 : CallS RX7 32 mJ9_max_7cf53 2 := ⟨caJ9_max_7cf53, gws_in 757 (by decide +kernel) (by decide +kernel), gws_in 308 (by decide +kernel) (by decide +kernel)⟩
theorem cvX8_29 : CallS RX8 29 mJ9_max_7cf53 2 := ⟨caJ9_max_7cf53, gws_in 307 (by decide +kernel) (by decide +kernel), gws_in 308 (by decide +kernel) (by decide +kernel)⟩
theorem cvX8_47 : CallV RX8 47 mX8_putByte 8 1 := ⟨caX8_putByte, gws_in 726 (by decide +kernel) (by decide +kernel), gws_in 727 (by decide +kernel) (by decide +kernel), gws_in 728 (by decide +kernel) (by decide +kernel), rfl⟩
theorem cvX8_51 : CallS RX8 51 mX10_lengthOf 1 := ⟨caX10_lengthOf, gws_in 722 (by decide +kernel) (by decide +kernel), gws_in 665 (by decide +kernel) (by decide +kernel)⟩
theorem cvX8_57 : CallS RX8 57 mX10_byteOf 2 := ⟨caX10_byteOf, gws_in 723 (by decide +kernel) (by decide +kernel), gws_in 724 (by decide +kernel) (by decide +kernel)⟩
theorem cvX8_61 : CallV RX8 61 mX8_putPage 8 1 := ⟨caX8_putPage, gws_in 765 (by decide +kernel) (by decide +kernel), gws_in 766 (by decide +kernel) (by decide +kernel), gws_in 767 (by decide +kernel) (by decide +kernel), rfl⟩
theorem cvX8_64 : CallV RX8 64 mX8_write 8 1 := ⟨caX8_write, gws_in 738 (by decide +kernel) (by decide +kernel), gws_in 739 (by decide +kernel) (by decide +kernel), gws_in 740 (by decide +kernel) (by decide +kernel), rfl⟩
theorem cvX8_67 : CallV RX8 67 mX8_placeUnit 8 0 := ⟨caX8_placeUnit, gws_in 773 (by decide +kernel) (by decide +kernel), gws_in 735 (by decide +kernel) (by decide +kernel), gws_in 736 (by decide +kernel) (by decide +kernel), rfl⟩
theorem cvX9_25 : CallV RX9 25 mX9_ifStands 9 3 := ⟨caX9_ifStands, gws_in 1093 (by decide +kernel) (by decide +kernel), gws_in 1094 (by decide +kernel) (by decide +kernel), gws_in 1095 (by decide +kernel) (by decide +kernel), rfl⟩
theorem cvX9_29 : CallV RX9 29 mX9_ifLeftOut 9 2 := ⟨caX9_ifLeftOut, gws_in 1097 (by decide +kernel) (by decide +kernel), gws_in 1098 (by decide +kernel) (by decide +kernel), gws_in 1099 (by decide +kernel) (by decide +kernel), rfl⟩
theorem cvX9_33 : CallS RX9 33 mJ9_min_7cf53 2 := ⟨caJ9_min_7cf53, gws_in 1101 (by decide +kernel) (by decide +kernel), gws_in 755 (by decide +kernel) (by decide +kernel)⟩
theorem cvX10_11 : CallS RX10 11 mX10_codeOf 2 := ⟨caX10_codeOf, gws_in 667 (by decide +kernel) (by decide +kernel), gws_in 668 (by decide +kernel) (by decide +kernel)⟩
theorem cvX10_15 : CallS RX10 15 mX10_codeAt 2 := ⟨caX10_codeAt, gws_in 705 (by decide +kernel) (by decide +kernel), gws_in 607 (by decide +kernel) (by decide +kernel)⟩
theorem cvX10_19 : CallS RX10 19 mX10_withoutLines 1 := ⟨caX10_withoutLines, gws_in 1121 (by decide +kernel) (by decide +kernel), gws_in 703 (by decide +kernel) (by decide +kernel)⟩
theorem cvX10_23 : CallS RX10 23 mX10_isPlural 2 := ⟨caX10_isPlural, gws_in 1122 (by decide +kernel) (by decide +kernel), gws_in 1123 (by decide +kernel) (by decide +kernel)⟩
theorem cvX10_27 : CallS RX10 27 mX10_isOneByteOff 2 := ⟨caX10_isOneByteOff, gws_in 1126 (by decide +kernel) (by decide +kernel), gws_in 1127 (by decide +kernel) (by decide +kernel)⟩
theorem cvX10_30 : CallS RX10 30 mX10_lengthOf 1 := ⟨caX10_lengthOf, gws_in 1125 (by decide +kernel) (by decide +kernel), gws_in 665 (by decide +kernel) (by decide +kernel)⟩
theorem cvX10_34 : CallS RX10 34 mX10_behind 2 := ⟨caX10_behind, gws_in 1129 (by decide +kernel) (by decide +kernel), gws_in 1130 (by decide +kernel) (by decide +kernel)⟩
theorem cvX11_102 : CallV RX11 102 mX5_takeBytes 5 2 := ⟨caX5_takeBytes, gws_in 479 (by decide +kernel) (by decide +kernel), gws_in 480 (by decide +kernel) (by decide +kernel), gws_in 481 (by decide +kernel) (by decide +kernel), rfl⟩
theorem cvX11_106 : CallV RX11 106 mX5_begin 5 0 := ⟨caX5_begin, gws_in 487 (by decide +kernel) (by decide +kernel), gws_in 488 (by decide +kernel) (by decide +kernel), gws_in 489 (by decide +kernel) (by decide +kernel), rfl⟩
theorem cvX11_109 : CallV RX11 109 mX5_hasMore 5 0 := ⟨caX5_hasMore, gws_in 495 (by decide +kernel) (by decide +kernel), gws_in 496 (by decide +kernel) (by decide +kernel), gws_in 497 (by decide +kernel) (by decide +kernel), rfl⟩
theorem cvX11_113 : CallV RX11 113 mX5_readClause 5 0 := ⟨caX5_readClause, gws_in 503 (by decide +kernel) (by decide +kernel), gws_in 504 (by decide +kernel) (by decide +kernel), gws_in 505 (by decide +kernel) (by decide +kernel), rfl⟩
theorem cvX11_119 : CallV RX11 119 mX5_changeBook 5 1 := ⟨caX5_changeBook, gws_in 678 (by decide +kernel) (by decide +kernel), gws_in 679 (by decide +kernel) (by decide +kernel), gws_in 680 (by decide +kernel) (by decide +kernel), rfl⟩
theorem cvX11_135 : CallV RX11 135 mX11_printAll 10 0 := ⟨caX11_printAll, gws_in 690 (by decide +kernel) (by decide +kernel), gws_in 692 (by decide +kernel) (by decide +kernel), gws_in 0 (by decide +kernel) (by decide +kernel), rfl⟩
theorem cvX11_142 : CallV RX11 142 mX0_filledHeads 0 0 := ⟨caX0_filledHeads, gws_in 805 (by decide +kernel) (by decide +kernel), gws_in 806 (by decide +kernel) (by decide +kernel), gws_in 807 (by decide +kernel) (by decide +kernel), rfl⟩
theorem cvX11_146 : CallS RX11 146 mJ6_bitCount_0f7a4 1 := ⟨caJ6_bitCount_0f7a4, gws_in 809 (by decide +kernel) (by decide +kernel), gws_in 810 (by decide +kernel) (by decide +kernel)⟩
theorem cvX11_152 : CallV RX11 152 mX0_hasHead 0 1 := ⟨caX0_hasHead, gws_in 819 (by decide +kernel) (by decide +kernel), gws_in 626 (by decide +kernel) (by decide +kernel), gws_in 627 (by decide +kernel) (by decide +kernel), rfl⟩
theorem cvX11_159 : CallV RX11 159 mX0_gatherRuns 0 3 := ⟨caX0_gatherRuns, gws_in 820 (by decide +kernel) (by decide +kernel), gws_in 743 (by decide +kernel) (by decide +kernel), gws_in 744 (by decide +kernel) (by decide +kernel), rfl⟩
theorem cvX11_173 : CallS RX11 173 mX11_isIn 2 := ⟨caX11_isIn, gws_in 821 (by decide +kernel) (by decide +kernel), gws_in 658 (by decide +kernel) (by decide +kernel)⟩
theorem cvX11_177 : CallV RX11 177 mX0_hasEntry 0 2 := ⟨caX0_hasEntry, gws_in 826 (by decide +kernel) (by decide +kernel), gws_in 827 (by decide +kernel) (by decide +kernel), gws_in 828 (by decide +kernel) (by decide +kernel), rfl⟩
theorem cvX11_180 : CallV RX11 180 mX0_wordOf 0 2 := ⟨caX0_wordOf, gws_in 830 (by decide +kernel) (by decide +kernel), gws_in 791 (by decide +kernel) (by decide +kernel), gws_in 792 (by decide +kernel) (by decide +kernel), rfl⟩
theorem cvX11_184 : CallS RX11 184 mX10_lengthOf 1 := ⟨caX10_lengthOf, gws_in 831 (by decide +kernel) (by decide +kernel), gws_in 665 (by decide +kernel) (by decide +kernel)⟩
theorem cvX11_190 : CallS RX11 190 mX10_byteOf 2 := ⟨caX10_byteOf, gws_in 832 (by decide +kernel) (by decide +kernel), gws_in 724 (by decide +kernel) (by decide +kernel)⟩
theorem cvX11_194 : CallV RX11 194 mX0_hasMark 0 1 := ⟨caX0_hasMark, gws_in 837 (by decide +kernel) (by decide +kernel), gws_in 838 (by decide +kernel) (by decide +kernel), gws_in 839 (by decide +kernel) (by decide +kernel), rfl⟩
theorem cvX11_213 : CallS RX11 213 mX11_isPage 1 := ⟨caX11_isPage, gws_in 845 (by decide +kernel) (by decide +kernel), gws_in 846 (by decide +kernel) (by decide +kernel)⟩
theorem cvX11_216 : CallV RX11 216 mX0_putMark 0 5 := ⟨caX0_putMark, gws_in 848 (by decide +kernel) (by decide +kernel), gws_in 650 (by decide +kernel) (by decide +kernel), gws_in 651 (by decide +kernel) (by decide +kernel), rfl⟩
theorem cvX11_220 : CallV RX11 220 mX0_removeMark 0 1 := ⟨caX0_removeMark, gws_in 853 (by decide +kernel) (by decide +kernel), gws_in 854 (by decide +kernel) (by decide +kernel), gws_in 855 (by decide +kernel) (by decide +kernel), rfl⟩
theorem cvX11_232 : CallV RX11 232 mX4_arrange 4 2 := ⟨caX4_arrange, gws_in 694 (by decide +kernel) (by decide +kernel), gws_in 695 (by decide +kernel) (by decide +kernel), gws_in 696 (by decide +kernel) (by decide +kernel), rfl⟩
theorem cvX11_245 : CallV RX11 245 mX4_arrangeSubs 4 3 := ⟨caX4_arrangeSubs, gws_in 881 (by decide +kernel) (by decide +kernel), gws_in 779 (by decide +kernel) (by decide +kernel), gws_in 780 (by decide +kernel) (by decide +kernel), rfl⟩
theorem cvX11_256 : CallV RX11 256 mX8_clear 8 1 := ⟨caX8_clear, gws_in 706 (by decide +kernel) (by decide +kernel), gws_in 707 (by decide +kernel) (by decide +kernel), gws_in 708 (by decide +kernel) (by decide +kernel), rfl⟩
theorem cvX11_259 : CallV RX11 259 mX4_setHead 4 5 := ⟨caX4_setHead, gws_in 710 (by decide +kernel) (by decide +kernel), gws_in 711 (by decide +kernel) (by decide +kernel), gws_in 712 (by decide +kernel) (by decide +kernel), rfl⟩
theorem cvX11_263 : CallV RX11 263 mX0_stepsToFilled 0 2 := ⟨caX0_stepsToFilled, gws_in 894 (by decide +kernel) (by decide +kernel), gws_in 895 (by decide +kernel) (by decide +kernel), gws_in 896 (by decide +kernel) (by decide +kernel), rfl⟩
theorem cvX11_267 : CallV RX11 267 mX0_headAfter 0 2 := ⟨caX0_headAfter, gws_in 899 (by decide +kernel) (by decide +kernel), gws_in 900 (by decide +kernel) (by decide +kernel), gws_in 901 (by decide +kernel) (by decide +kernel), rfl⟩
theorem cvX11_270 : CallV RX11 270 mX0_headsWith 0 1 := ⟨caX0_headsWith, gws_in 907 (by decide +kernel) (by decide +kernel), gws_in 908 (by decide +kernel) (by decide +kernel), gws_in 909 (by decide +kernel) (by decide +kernel), rfl⟩
theorem cvX11_273 : CallV RX11 273 mX0_oneStepOn 0 1 := ⟨caX0_oneStepOn, gws_in 911 (by decide +kernel) (by decide +kernel), gws_in 912 (by decide +kernel) (by decide +kernel), gws_in 913 (by decide +kernel) (by decide +kernel), rfl⟩
theorem cvX11_276 : CallV RX11 276 mX2_gather 2 1 := ⟨caX2_gather, gws_in 919 (by decide +kernel) (by decide +kernel), gws_in 920 (by decide +kernel) (by decide +kernel), gws_in 921 (by decide +kernel) (by decide +kernel), rfl⟩
theorem cvX11_280 : CallV RX11 280 mX2_sizeOf 2 1 := ⟨caX2_sizeOf, gws_in 927 (by decide +kernel) (by decide +kernel), gws_in 928 (by decide +kernel) (by decide +kernel), gws_in 929 (by decide +kernel) (by decide +kernel), rfl⟩
theorem cvX11_283 : CallV RX11 283 mX11_hasTrouble 10 4 := ⟨caX11_hasTrouble, gws_in 942 (by decide +kernel) (by decide +kernel), gws_in 944 (by decide +kernel) (by decide +kernel), gws_in 1 (by decide +kernel) (by decide +kernel), rfl⟩
theorem cvX11_287 : CallV RX11 287 mX0_goesRound 0 1 := ⟨caX0_goesRound, gws_in 946 (by decide +kernel) (by decide +kernel), gws_in 947 (by decide +kernel) (by decide +kernel), gws_in 948 (by decide +kernel) (by decide +kernel), rfl⟩
theorem cvX11_290 : CallV RX11 290 mX0_markedSubs 0 1 := ⟨caX0_markedSubs, gws_in 950 (by decide +kernel) (by decide +kernel), gws_in 775 (by decide +kernel) (by decide +kernel), gws_in 776 (by decide +kernel) (by decide +kernel), rfl⟩
theorem cvX11_293 : CallV RX11 293 mX2_hasTwin 2 2 := ⟨caX2_hasTwin, gws_in 951 (by decide +kernel) (by decide +kernel), gws_in 952 (by decide +kernel) (by decide +kernel), gws_in 953 (by decide +kernel) (by decide +kernel), rfl⟩
theorem cvX11_296 : CallV RX11 296 mX3_postable 3 1 := ⟨caX3_postable, gws_in 959 (by decide +kernel) (by decide +kernel), gws_in 960 (by decide +kernel) (by decide +kernel), gws_in 961 (by decide +kernel) (by decide +kernel), rfl⟩
theorem cvX11_300 : CallV RX11 300 mX11_sourceOf 10 2 := ⟨caX11_sourceOf, gws_in 965 (by decide +kernel) (by decide +kernel), gws_in 967 (by decide +kernel) (by decide +kernel), gws_in 2 (by decide +kernel) (by decide +kernel), rfl⟩
theorem cvX11_303 : CallV RX11 303 mX11_offerPosts 10 0 := ⟨caX11_offerPosts, gws_in 973 (by decide +kernel) (by decide +kernel), gws_in 975 (by decide +kernel) (by decide +kernel), gws_in 3 (by decide +kernel) (by decide +kernel), rfl⟩
theorem cvX11_306 : CallV RX11 306 mX3_choose 3 2 := ⟨caX3_choose, gws_in 985 (by decide +kernel) (by decide +kernel), gws_in 986 (by decide +kernel) (by decide +kernel), gws_in 987 (by decide +kernel) (by decide +kernel), rfl⟩
theorem cvX11_319 : CallV RX11 319 mX3_clear 3 0 := ⟨caX3_clear, gws_in 977 (by decide +kernel) (by decide +kernel), gws_in 978 (by decide +kernel) (by decide +kernel), gws_in 979 (by decide +kernel) (by decide +kernel), rfl⟩
theorem cvX11_321 : CallV RX11 321 mX3_offer 3 3 := ⟨caX3_offer, gws_in 981 (by decide +kernel) (by decide +kernel), gws_in 982 (by decide +kernel) (by decide +kernel), gws_in 983 (by decide +kernel) (by decide +kernel), rfl⟩
theorem cvX11_325 : CallV RX11 325 mX11_offerFits 10 0 := ⟨caX11_offerFits, gws_in 994 (by decide +kernel) (by decide +kernel), gws_in 996 (by decide +kernel) (by decide +kernel), gws_in 4 (by decide +kernel) (by decide +kernel), rfl⟩
theorem cvX11_328 : CallV RX11 328 mX1_choose 1 2 := ⟨caX1_choose, gws_in 1007 (by decide +kernel) (by decide +kernel), gws_in 1008 (by decide +kernel) (by decide +kernel), gws_in 1009 (by decide +kernel) (by decide +kernel), rfl⟩
theorem cvX11_335 : CallV RX11 335 mX1_clear 1 1 := ⟨caX1_clear, gws_in 998 (by decide +kernel) (by decide +kernel), gws_in 999 (by decide +kernel) (by decide +kernel), gws_in 1000 (by decide +kernel) (by decide +kernel), rfl⟩
theorem cvX11_336 : CallV RX11 336 mX1_offer 1 4 := ⟨caX1_offer, gws_in 1003 (by decide +kernel) (by decide +kernel), gws_in 1004 (by decide +kernel) (by decide +kernel), gws_in 1005 (by decide +kernel) (by decide +kernel), rfl⟩
theorem cvX11_339 : CallV RX11 339 mX0_lastPageAbove 0 1 := ⟨caX0_lastPageAbove, gws_in 1033 (by decide +kernel) (by decide +kernel), gws_in 1034 (by decide +kernel) (by decide +kernel), gws_in 1035 (by decide +kernel) (by decide +kernel), rfl⟩
theorem cvX11_342 : CallV RX11 342 mX0_pushPages 0 2 := ⟨caX0_pushPages, gws_in 1038 (by decide +kernel) (by decide +kernel), gws_in 1039 (by decide +kernel) (by decide +kernel), gws_in 1040 (by decide +kernel) (by decide +kernel), rfl⟩
theorem cvX11_345 : CallV RX11 345 mX0_cutPages 0 2 := ⟨caX0_cutPages, gws_in 1046 (by decide +kernel) (by decide +kernel), gws_in 1047 (by decide +kernel) (by decide +kernel), gws_in 1048 (by decide +kernel) (by decide +kernel), rfl⟩
theorem cvX11_348 : CallS RX11 348 mX11_isImage 1 := ⟨caX11_isImage, gws_in 1055 (by decide +kernel) (by decide +kernel), gws_in 1056 (by decide +kernel) (by decide +kernel)⟩
theorem cvX11_358 : CallV RX11 358 mX0_findHead 0 1 := ⟨caX0_findHead, gws_in 1058 (by decide +kernel) (by decide +kernel), gws_in 610 (by decide +kernel) (by decide +kernel), gws_in 611 (by decide +kernel) (by decide +kernel), rfl⟩
theorem cvX11_361 : CallV RX11 361 mX11_staleRuns 10 5 := ⟨caX11_staleRuns, gws_in 1059 (by decide +kernel) (by decide +kernel), gws_in 1061 (by decide +kernel) (by decide +kernel), gws_in 5 (by decide +kernel) (by decide +kernel), rfl⟩
theorem cvX11_365 : CallV RX11 365 mX0_findSub 0 2 := ⟨caX0_findSub, gws_in 1068 (by decide +kernel) (by decide +kernel), gws_in 622 (by decide +kernel) (by decide +kernel), gws_in 623 (by decide +kernel) (by decide +kernel), rfl⟩
theorem cvX11_368 : CallV RX11 368 mX7_clear 7 0 := ⟨caX7_clear, gws_in 1063 (by decide +kernel) (by decide +kernel), gws_in 747 (by decide +kernel) (by decide +kernel), gws_in 748 (by decide +kernel) (by decide +kernel), rfl⟩
theorem cvX11_369 : CallV RX11 369 mX7_holds 7 2 := ⟨caX7_holds, gws_in 1064 (by decide +kernel) (by decide +kernel), gws_in 1065 (by decide +kernel) (by decide +kernel), gws_in 1066 (by decide +kernel) (by decide +kernel), rfl⟩
theorem cvX11_372 : CallV RX11 372 mX9_lastTold 9 0 := ⟨caX9_lastTold, gws_in 1073 (by decide +kernel) (by decide +kernel), gws_in 1074 (by decide +kernel) (by decide +kernel), gws_in 1075 (by decide +kernel) (by decide +kernel), rfl⟩
theorem cvX11_375 : CallV RX11 375 mX9_put 9 2 := ⟨caX9_put, gws_in 1077 (by decide +kernel) (by decide +kernel), gws_in 1078 (by decide +kernel) (by decide +kernel), gws_in 1079 (by decide +kernel) (by decide +kernel), rfl⟩
theorem cvX11_378 : CallV RX11 378 mX9_weigh 9 1 := ⟨caX9_weigh, gws_in 1089 (by decide +kernel) (by decide +kernel), gws_in 1090 (by decide +kernel) (by decide +kernel), gws_in 1091 (by decide +kernel) (by decide +kernel), rfl⟩
theorem cvX11_381 : CallV RX11 381 mX9_leastCost 9 0 := ⟨caX9_leastCost, gws_in 1102 (by decide +kernel) (by decide +kernel), gws_in 1103 (by decide +kernel) (by decide +kernel), gws_in 1104 (by decide +kernel) (by decide +kernel), rfl⟩
theorem cvX11_384 : CallV RX11 384 mX9_standsAt 9 2 := ⟨caX9_standsAt, gws_in 1106 (by decide +kernel) (by decide +kernel), gws_in 1107 (by decide +kernel) (by decide +kernel), gws_in 1108 (by decide +kernel) (by decide +kernel), rfl⟩
theorem cvX11_387 : CallV RX11 387 mX11_areTwoHeads 10 2 := ⟨caX11_areTwoHeads, gws_in 1114 (by decide +kernel) (by decide +kernel), gws_in 1116 (by decide +kernel) (by decide +kernel), gws_in 6 (by decide +kernel) (by decide +kernel), rfl⟩
theorem cvX11_390 : CallS RX11 390 mX10_nearness 2 := ⟨caX10_nearness, gws_in 1118 (by decide +kernel) (by decide +kernel), gws_in 1119 (by decide +kernel) (by decide +kernel)⟩
theorem cvX11_394 : CallV RX11 394 mX0_subsMissing 0 2 := ⟨caX0_subsMissing, gws_in 1137 (by decide +kernel) (by decide +kernel), gws_in 1138 (by decide +kernel) (by decide +kernel), gws_in 1139 (by decide +kernel) (by decide +kernel), rfl⟩
theorem cvX11_397 : CallV RX11 397 mX0_joinMarks 0 2 := ⟨caX0_joinMarks, gws_in 1143 (by decide +kernel) (by decide +kernel), gws_in 1144 (by decide +kernel) (by decide +kernel), gws_in 1145 (by decide +kernel) (by decide +kernel), rfl⟩
theorem cvX11_400 : CallV RX11 400 mX0_joinRest 0 2 := ⟨caX0_joinRest, gws_in 1152 (by decide +kernel) (by decide +kernel), gws_in 1153 (by decide +kernel) (by decide +kernel), gws_in 1154 (by decide +kernel) (by decide +kernel), rfl⟩
theorem cvX11_403 : CallV RX11 403 mX0_marksOf 0 1 := ⟨caX0_marksOf, gws_in 1156 (by decide +kernel) (by decide +kernel), gws_in 715 (by decide +kernel) (by decide +kernel), gws_in 716 (by decide +kernel) (by decide +kernel), rfl⟩
theorem cvX11_406 : CallV RX11 406 mX0_copyFrom 0 1 := ⟨caX0_copyFrom, gws_in 1161 (by decide +kernel) (by decide +kernel), gws_in 1162 (by decide +kernel) (by decide +kernel), gws_in 1163 (by decide +kernel) (by decide +kernel), rfl⟩
theorem cvX12_146 : CallS RX12 146 mX12_in 3 := ⟨caX12_in, gws_in 1383 (by decide +kernel) (by decide +kernel), gws_in 1384 (by decide +kernel) (by decide +kernel)⟩
theorem cvX12_165 : CallV RX12 165 mX12_here 11 0 := ⟨caX12_here, gws_in 1395 (by decide +kernel) (by decide +kernel), gws_in 1397 (by decide +kernel) (by decide +kernel), gws_in 8 (by decide +kernel) (by decide +kernel), rfl⟩
theorem cvX12_172 : CallS RX12 172 mX12_isLetter 1 := ⟨caX12_isLetter, gws_in 1407 (by decide +kernel) (by decide +kernel), gws_in 1408 (by decide +kernel) (by decide +kernel)⟩
theorem cvX12_181 : CallV RX12 181 mX12_takeWord 11 0 := ⟨caX12_takeWord, gws_in 1403 (by decide +kernel) (by decide +kernel), gws_in 1405 (by decide +kernel) (by decide +kernel), gws_in 10 (by decide +kernel) (by decide +kernel), rfl⟩
theorem cvX12_184 : CallV RX12 184 mX12_want 11 3 := ⟨caX12_want, gws_in 1420 (by decide +kernel) (by decide +kernel), gws_in 1422 (by decide +kernel) (by decide +kernel), gws_in 13 (by decide +kernel) (by decide +kernel), rfl⟩
theorem cvX12_188 : CallV RX12 188 mX12_isName 11 0 := ⟨caX12_isName, gws_in 1428 (by decide +kernel) (by decide +kernel), gws_in 1430 (by decide +kernel) (by decide +kernel), gws_in 15 (by decide +kernel) (by decide +kernel), rfl⟩
theorem cvX12_195 : CallS RX12 195 mX12_slot 2 := ⟨caX12_slot, gws_in 1433 (by decide +kernel) (by decide +kernel), gws_in 1434 (by decide +kernel) (by decide +kernel)⟩
theorem cvX12_199 : CallV RX12 199 mX12_isHere 11 1 := ⟨caX12_isHere, gws_in 1436 (by decide +kernel) (by decide +kernel), gws_in 1438 (by decide +kernel) (by decide +kernel), gws_in 16 (by decide +kernel) (by decide +kernel), rfl⟩
theorem cvX12_202 : CallV RX12 202 mX12_nameIt 11 1 := ⟨caX12_nameIt, gws_in 1440 (by decide +kernel) (by decide +kernel), gws_in 1442 (by decide +kernel) (by decide +kernel), gws_in 17 (by decide +kernel) (by decide +kernel), rfl⟩
theorem cvX12_213 : CallV RX12 213 mX12_takeHead 11 0 := ⟨caX12_takeHead, gws_in 1424 (by decide +kernel) (by decide +kernel), gws_in 1426 (by decide +kernel) (by decide +kernel), gws_in 14 (by decide +kernel) (by decide +kernel), rfl⟩
theorem cvX12_216 : CallV RX12 216 mX12_takeSub 11 1 := ⟨caX12_takeSub, gws_in 1444 (by decide +kernel) (by decide +kernel), gws_in 1446 (by decide +kernel) (by decide +kernel), gws_in 18 (by decide +kernel) (by decide +kernel), rfl⟩
theorem cvX12_220 : CallV RX12 220 mX12_takeNumber 11 2 := ⟨caX12_takeNumber, gws_in 1448 (by decide +kernel) (by decide +kernel), gws_in 1450 (by decide +kernel) (by decide +kernel), gws_in 19 (by decide +kernel) (by decide +kernel), rfl⟩
theorem cvX12_223 : CallV RX12 223 mX12_isWord 11 6 := ⟨caX12_isWord, gws_in 1412 (by decide +kernel) (by decide +kernel), gws_in 1414 (by decide +kernel) (by decide +kernel), gws_in 11 (by decide +kernel) (by decide +kernel), rfl⟩
theorem cvX12_227 : CallV RX12 227 mX12_lay 11 5 := ⟨caX12_lay, gws_in 1454 (by decide +kernel) (by decide +kernel), gws_in 1456 (by decide +kernel) (by decide +kernel), gws_in 20 (by decide +kernel) (by decide +kernel), rfl⟩
theorem cvX12_237 : CallS RX12 237 mX12_has 2 := ⟨caX12_has, gws_in 1466 (by decide +kernel) (by decide +kernel), gws_in 1467 (by decide +kernel) (by decide +kernel)⟩
theorem cvX12_244 : CallV RX12 244 mX12_takeMark 11 1 := ⟨caX12_takeMark, gws_in 1416 (by decide +kernel) (by decide +kernel), gws_in 1418 (by decide +kernel) (by decide +kernel), gws_in 12 (by decide +kernel) (by decide +kernel), rfl⟩
theorem cvX12_247 : CallV RX12 247 mX12_takeSee 11 1 := ⟨caX12_takeSee, gws_in 1458 (by decide +kernel) (by decide +kernel), gws_in 1460 (by decide +kernel) (by decide +kernel), gws_in 21 (by decide +kernel) (by decide +kernel), rfl⟩
theorem cvX12_250 : CallV RX12 250 mX12_takeAlso 11 1 := ⟨caX12_takeAlso, gws_in 1462 (by decide +kernel) (by decide +kernel), gws_in 1464 (by decide +kernel) (by decide +kernel), gws_in 22 (by decide +kernel) (by decide +kernel), rfl⟩
theorem cvX12_253 : CallV RX12 253 mX12_takeAsked 11 0 := ⟨caX12_takeAsked, gws_in 1469 (by decide +kernel) (by decide +kernel), gws_in 1471 (by decide +kernel) (by decide +kernel), gws_in 23 (by decide +kernel) (by decide +kernel), rfl⟩
theorem cvX12_256 : CallV RX12 256 mX12_keepAt 11 1 := ⟨caX12_keepAt, gws_in 1391 (by decide +kernel) (by decide +kernel), gws_in 1393 (by decide +kernel) (by decide +kernel), gws_in 7 (by decide +kernel) (by decide +kernel), rfl⟩
theorem cvX12_259 : CallV RX12 259 mX12_takeClause 11 0 := ⟨caX12_takeClause, gws_in 1399 (by decide +kernel) (by decide +kernel), gws_in 1401 (by decide +kernel) (by decide +kernel), gws_in 9 (by decide +kernel) (by decide +kernel), rfl⟩
theorem cvX12_262 : CallV RX12 262 mX12_backTo 11 1 := ⟨caX12_backTo, gws_in 1473 (by decide +kernel) (by decide +kernel), gws_in 1475 (by decide +kernel) (by decide +kernel), gws_in 24 (by decide +kernel) (by decide +kernel), rfl⟩
theorem cvX12_267 : CallV RX12 267 mX12_isOf 11 3 := ⟨caX12_isOf, gws_in 1524 (by decide +kernel) (by decide +kernel), gws_in 1526 (by decide +kernel) (by decide +kernel), gws_in 34 (by decide +kernel) (by decide +kernel), rfl⟩
theorem cvX12_271 : CallS RX12 271 mX12_one 1 := ⟨caX12_one, gws_in 1509 (by decide +kernel) (by decide +kernel), gws_in 1510 (by decide +kernel) (by decide +kernel)⟩
theorem cvX12_275 : CallV RX12 275 mX12_marksOf 11 2 := ⟨caX12_marksOf, gws_in 1520 (by decide +kernel) (by decide +kernel), gws_in 1522 (by decide +kernel) (by decide +kernel), gws_in 33 (by decide +kernel) (by decide +kernel), rfl⟩
theorem cvX12_278 : CallV RX12 278 mX12_isFilled 11 1 := ⟨caX12_isFilled, gws_in 1516 (by decide +kernel) (by decide +kernel), gws_in 1518 (by decide +kernel) (by decide +kernel), gws_in 32 (by decide +kernel) (by decide +kernel), rfl⟩
theorem cvX12_284 : CallV RX12 284 mX12_linesOfAll 11 1 := ⟨caX12_linesOfAll, gws_in 1485 (by decide +kernel) (by decide +kernel), gws_in 1487 (by decide +kernel) (by decide +kernel), gws_in 25 (by decide +kernel) (by decide +kernel), rfl⟩
theorem cvX12_287 : CallV RX12 287 mX12_bytesOfAll 11 0 := ⟨caX12_bytesOfAll, gws_in 1600 (by decide +kernel) (by decide +kernel), gws_in 1602 (by decide +kernel) (by decide +kernel), gws_in 53 (by decide +kernel) (by decide +kernel), rfl⟩
theorem cvX12_290 : CallV RX12 290 mX12_filled 11 0 := ⟨caX12_filled, gws_in 1604 (by decide +kernel) (by decide +kernel), gws_in 1606 (by decide +kernel) (by decide +kernel), gws_in 54 (by decide +kernel) (by decide +kernel), rfl⟩
theorem cvX12_293 : CallV RX12 293 mX12_noHead 11 1 := ⟨caX12_noHead, gws_in 1612 (by decide +kernel) (by decide +kernel), gws_in 1614 (by decide +kernel) (by decide +kernel), gws_in 55 (by decide +kernel) (by decide +kernel), rfl⟩
theorem cvX12_296 : CallV RX12 296 mX12_tick 11 2 := ⟨caX12_tick, gws_in 1572 (by decide +kernel) (by decide +kernel), gws_in 1574 (by decide +kernel) (by decide +kernel), gws_in 46 (by decide +kernel) (by decide +kernel), rfl⟩
theorem cvX12_300 : CallV RX12 300 mX12_runsTicked 11 0 := ⟨caX12_runsTicked, gws_in 1616 (by decide +kernel) (by decide +kernel), gws_in 1618 (by decide +kernel) (by decide +kernel), gws_in 56 (by decide +kernel) (by decide +kernel), rfl⟩
theorem cvX12_303 : CallV RX12 303 mX12_linesOf 11 2 := ⟨caX12_linesOf, gws_in 1489 (by decide +kernel) (by decide +kernel), gws_in 1491 (by decide +kernel) (by decide +kernel), gws_in 26 (by decide +kernel) (by decide +kernel), rfl⟩
theorem cvX12_306 : CallV RX12 306 mX12_noSub 11 2 := ⟨caX12_noSub, gws_in 1624 (by decide +kernel) (by decide +kernel), gws_in 1626 (by decide +kernel) (by decide +kernel), gws_in 57 (by decide +kernel) (by decide +kernel), rfl⟩
theorem cvX12_311 : CallS RX12 311 mX12_isPage 1 := ⟨caX12_isPage, gws_in 1637 (by decide +kernel) (by decide +kernel), gws_in 1638 (by decide +kernel) (by decide +kernel)⟩
theorem cvX12_314 : CallV RX12 314 mX12_takeAway 11 1 := ⟨caX12_takeAway, gws_in 1645 (by decide +kernel) (by decide +kernel), gws_in 1647 (by decide +kernel) (by decide +kernel), gws_in 58 (by decide +kernel) (by decide +kernel), rfl⟩
theorem cvX12_327 : CallV RX12 327 mX12_nextRun 11 1 := ⟨caX12_nextRun, gws_in 1580 (by decide +kernel) (by decide +kernel), gws_in 1582 (by decide +kernel) (by decide +kernel), gws_in 48 (by decide +kernel) (by decide +kernel), rfl⟩
theorem cvX12_335 : CallV RX12 335 mX12_signAt 11 2 := ⟨caX12_signAt, gws_in 1505 (by decide +kernel) (by decide +kernel), gws_in 1507 (by decide +kernel) (by decide +kernel), gws_in 30 (by decide +kernel) (by decide +kernel), rfl⟩
theorem cvX12_338 : CallV RX12 338 mX12_isLess 11 2 := ⟨caX12_isLess, gws_in 1501 (by decide +kernel) (by decide +kernel), gws_in 1503 (by decide +kernel) (by decide +kernel), gws_in 29 (by decide +kernel) (by decide +kernel), rfl⟩
theorem cvX12_341 : CallV RX12 341 mX12_placeOf 11 4 := ⟨caX12_placeOf, gws_in 1497 (by decide +kernel) (by decide +kernel), gws_in 1499 (by decide +kernel) (by decide +kernel), gws_in 28 (by decide +kernel) (by decide +kernel), rfl⟩
theorem cvX12_345 : CallV RX12 345 mX12_findOrder 11 0 := ⟨caX12_findOrder, gws_in 1493 (by decide +kernel) (by decide +kernel), gws_in 1495 (by decide +kernel) (by decide +kernel), gws_in 27 (by decide +kernel) (by decide +kernel), rfl⟩
theorem cvX12_348 : CallV RX12 348 mX12_subOf 11 2 := ⟨caX12_subOf, gws_in 1592 (by decide +kernel) (by decide +kernel), gws_in 1594 (by decide +kernel) (by decide +kernel), gws_in 51 (by decide +kernel) (by decide +kernel), rfl⟩
theorem cvX12_364 : CallV RX12 364 mX12_sign 11 1 := ⟨caX12_sign, gws_in 1544 (by decide +kernel) (by decide +kernel), gws_in 1546 (by decide +kernel) (by decide +kernel), gws_in 39 (by decide +kernel) (by decide +kernel), rfl⟩
theorem cvX12_370 : CallV RX12 370 mX12_put 11 1 := ⟨caX12_put, gws_in 1560 (by decide +kernel) (by decide +kernel), gws_in 1562 (by decide +kernel) (by decide +kernel), gws_in 43 (by decide +kernel) (by decide +kernel), rfl⟩
theorem cvX12_373 : CallV RX12 373 mX12_endLine 11 0 := ⟨caX12_endLine, gws_in 1564 (by decide +kernel) (by decide +kernel), gws_in 1566 (by decide +kernel) (by decide +kernel), gws_in 44 (by decide +kernel) (by decide +kernel), rfl⟩
theorem cvX12_376 : CallV RX12 376 mX12_beginUnit 11 1 := ⟨caX12_beginUnit, gws_in 1540 (by decide +kernel) (by decide +kernel), gws_in 1542 (by decide +kernel) (by decide +kernel), gws_in 38 (by decide +kernel) (by decide +kernel), rfl⟩
theorem cvX12_379 : CallV RX12 379 mX12_signNumber 11 1 := ⟨caX12_signNumber, gws_in 1584 (by decide +kernel) (by decide +kernel), gws_in 1586 (by decide +kernel) (by decide +kernel), gws_in 49 (by decide +kernel) (by decide +kernel), rfl⟩
theorem cvX12_382 : CallV RX12 382 mX12_putUnit 11 0 := ⟨caX12_putUnit, gws_in 1556 (by decide +kernel) (by decide +kernel), gws_in 1558 (by decide +kernel) (by decide +kernel), gws_in 42 (by decide +kernel) (by decide +kernel), rfl⟩
theorem cvX12_385 : CallV RX12 385 mX12_beginRow 11 0 := ⟨caX12_beginRow, gws_in 1536 (by decide +kernel) (by decide +kernel), gws_in 1538 (by decide +kernel) (by decide +kernel), gws_in 37 (by decide +kernel) (by decide +kernel), rfl⟩
theorem cvX12_388 : CallV RX12 388 mX12_signWord 11 1 := ⟨caX12_signWord, gws_in 1548 (by decide +kernel) (by decide +kernel), gws_in 1550 (by decide +kernel) (by decide +kernel), gws_in 40 (by decide +kernel) (by decide +kernel), rfl⟩
theorem cvX12_391 : CallV RX12 391 mX12_putRuns 11 0 := ⟨caX12_putRuns, gws_in 1576 (by decide +kernel) (by decide +kernel), gws_in 1578 (by decide +kernel) (by decide +kernel), gws_in 47 (by decide +kernel) (by decide +kernel), rfl⟩
theorem cvX12_394 : CallV RX12 394 mX12_signSee 11 0 := ⟨caX12_signSee, gws_in 1552 (by decide +kernel) (by decide +kernel), gws_in 1554 (by decide +kernel) (by decide +kernel), gws_in 41 (by decide +kernel) (by decide +kernel), rfl⟩
theorem cvX12_397 : CallV RX12 397 mX12_printSee 11 1 := ⟨caX12_printSee, gws_in 1532 (by decide +kernel) (by decide +kernel), gws_in 1534 (by decide +kernel) (by decide +kernel), gws_in 36 (by decide +kernel) (by decide +kernel), rfl⟩
theorem cvX12_400 : CallV RX12 400 mX12_foundFrom 11 1 := ⟨caX12_foundFrom, gws_in 1568 (by decide +kernel) (by decide +kernel), gws_in 1570 (by decide +kernel) (by decide +kernel), gws_in 45 (by decide +kernel) (by decide +kernel), rfl⟩
theorem cvX12_403 : CallV RX12 403 mX12_printSubs 11 1 := ⟨caX12_printSubs, gws_in 1588 (by decide +kernel) (by decide +kernel), gws_in 1590 (by decide +kernel) (by decide +kernel), gws_in 50 (by decide +kernel) (by decide +kernel), rfl⟩
theorem cvX12_406 : CallV RX12 406 mX12_printAlso 11 1 := ⟨caX12_printAlso, gws_in 1596 (by decide +kernel) (by decide +kernel), gws_in 1598 (by decide +kernel) (by decide +kernel), gws_in 52 (by decide +kernel) (by decide +kernel), rfl⟩
theorem cvX12_409 : CallV RX12 409 mX12_isPrinted 11 1 := ⟨caX12_isPrinted, gws_in 1512 (by decide +kernel) (by decide +kernel), gws_in 1514 (by decide +kernel) (by decide +kernel), gws_in 31 (by decide +kernel) (by decide +kernel), rfl⟩
theorem cvX12_412 : CallV RX12 412 mX12_printHead 11 2 := ⟨caX12_printHead, gws_in 1528 (by decide +kernel) (by decide +kernel), gws_in 1530 (by decide +kernel) (by decide +kernel), gws_in 35 (by decide +kernel) (by decide +kernel), rfl⟩
theorem cvX12_418 : CallV RX12 418 mX12_tickAll 11 1 := ⟨caX12_tickAll, gws_in 1688 (by decide +kernel) (by decide +kernel), gws_in 1690 (by decide +kernel) (by decide +kernel), gws_in 59 (by decide +kernel) (by decide +kernel), rfl⟩
theorem cvX12_421 : CallV RX12 421 mX12_stepOn 11 1 := ⟨caX12_stepOn, gws_in 1692 (by decide +kernel) (by decide +kernel), gws_in 1694 (by decide +kernel) (by decide +kernel), gws_in 60 (by decide +kernel) (by decide +kernel), rfl⟩
theorem cvX12_426 : CallV RX12 426 mX12_goesRound 11 1 := ⟨caX12_goesRound, gws_in 1710 (by decide +kernel) (by decide +kernel), gws_in 1712 (by decide +kernel) (by decide +kernel), gws_in 62 (by decide +kernel) (by decide +kernel), rfl⟩
theorem cvX12_429 : CallV RX12 429 mX12_fullSubs 11 1 := ⟨caX12_fullSubs, gws_in 1714 (by decide +kernel) (by decide +kernel), gws_in 1716 (by decide +kernel) (by decide +kernel), gws_in 63 (by decide +kernel) (by decide +kernel), rfl⟩
theorem cvX12_432 : CallV RX12 432 mX12_alsoEmpty 11 1 := ⟨caX12_alsoEmpty, gws_in 1718 (by decide +kernel) (by decide +kernel), gws_in 1720 (by decide +kernel) (by decide +kernel), gws_in 64 (by decide +kernel) (by decide +kernel), rfl⟩
theorem cvX12_435 : CallV RX12 435 mX12_hasTwin 11 1 := ⟨caX12_hasTwin, gws_in 1722 (by decide +kernel) (by decide +kernel), gws_in 1724 (by decide +kernel) (by decide +kernel), gws_in 65 (by decide +kernel) (by decide +kernel), rfl⟩
theorem cvX12_440 : CallV RX12 440 mX12_isTrouble 11 3 := ⟨caX12_isTrouble, gws_in 1706 (by decide +kernel) (by decide +kernel), gws_in 1708 (by decide +kernel) (by decide +kernel), gws_in 61 (by decide +kernel) (by decide +kernel), rfl⟩
theorem cvX12_443 : CallV RX12 443 mX12_noSet 11 1 := ⟨caX12_noSet, gws_in 1730 (by decide +kernel) (by decide +kernel), gws_in 1732 (by decide +kernel) (by decide +kernel), gws_in 66 (by decide +kernel) (by decide +kernel), rfl⟩
theorem cvX12_446 : CallV RX12 446 mX12_canPost 11 1 := ⟨caX12_canPost, gws_in 1734 (by decide +kernel) (by decide +kernel), gws_in 1736 (by decide +kernel) (by decide +kernel), gws_in 67 (by decide +kernel) (by decide +kernel), rfl⟩
theorem cvX12_460 : CallV RX12 460 mX12_tryPosting 11 1 := ⟨caX12_tryPosting, gws_in 1743 (by decide +kernel) (by decide +kernel), gws_in 1745 (by decide +kernel) (by decide +kernel), gws_in 68 (by decide +kernel) (by decide +kernel), rfl⟩
theorem cvX12_463 : CallV RX12 463 mX12_lossOf 11 2 := ⟨caX12_lossOf, gws_in 1761 (by decide +kernel) (by decide +kernel), gws_in 1763 (by decide +kernel) (by decide +kernel), gws_in 71 (by decide +kernel) (by decide +kernel), rfl⟩
theorem cvX12_467 : CallV RX12 467 mX12_fitHead 11 4 := ⟨caX12_fitHead, gws_in 1757 (by decide +kernel) (by decide +kernel), gws_in 1759 (by decide +kernel) (by decide +kernel), gws_in 70 (by decide +kernel) (by decide +kernel), rfl⟩
theorem cvX12_473 : CallV RX12 473 mX12_fitAll 11 1 := ⟨caX12_fitAll, gws_in 1752 (by decide +kernel) (by decide +kernel), gws_in 1754 (by decide +kernel) (by decide +kernel), gws_in 69 (by decide +kernel) (by decide +kernel), rfl⟩
theorem cvX12_478 : CallV RX12 478 mX12_standing 11 3 := ⟨caX12_standing, gws_in 1786 (by decide +kernel) (by decide +kernel), gws_in 1788 (by decide +kernel) (by decide +kernel), gws_in 72 (by decide +kernel) (by decide +kernel), rfl⟩
theorem cvX12_482 : CallV RX12 482 mX12_leaving 11 2 := ⟨caX12_leaving, gws_in 1790 (by decide +kernel) (by decide +kernel), gws_in 1792 (by decide +kernel) (by decide +kernel), gws_in 73 (by decide +kernel) (by decide +kernel), rfl⟩
theorem cvX12_485 : CallV RX12 485 mX12_bareSize 11 1 := ⟨caX12_bareSize, gws_in 1798 (by decide +kernel) (by decide +kernel), gws_in 1800 (by decide +kernel) (by decide +kernel), gws_in 74 (by decide +kernel) (by decide +kernel), rfl⟩
theorem cvX12_488 : CallV RX12 488 mX12_bareAt 11 2 := ⟨caX12_bareAt, gws_in 1806 (by decide +kernel) (by decide +kernel), gws_in 1808 (by decide +kernel) (by decide +kernel), gws_in 76 (by decide +kernel) (by decide +kernel), rfl⟩
theorem cvX12_491 : CallV RX12 491 mX12_headAlike 11 2 := ⟨caX12_headAlike, gws_in 1802 (by decide +kernel) (by decide +kernel), gws_in 1804 (by decide +kernel) (by decide +kernel), gws_in 75 (by decide +kernel) (by decide +kernel), rfl⟩
theorem cvX12_494 : CallV RX12 494 mX12_isPlural 11 2 := ⟨caX12_isPlural, gws_in 1810 (by decide +kernel) (by decide +kernel), gws_in 1812 (by decide +kernel) (by decide +kernel), gws_in 77 (by decide +kernel) (by decide +kernel), rfl⟩
theorem cvX12_497 : CallV RX12 497 mX12_tailAlike 11 2 := ⟨caX12_tailAlike, gws_in 1814 (by decide +kernel) (by decide +kernel), gws_in 1816 (by decide +kernel) (by decide +kernel), gws_in 78 (by decide +kernel) (by decide +kernel), rfl⟩
theorem cvX12_500 : CallV RX12 500 mX12_likeSub 11 2 := ⟨caX12_likeSub, gws_in 1822 (by decide +kernel) (by decide +kernel), gws_in 1824 (by decide +kernel) (by decide +kernel), gws_in 79 (by decide +kernel) (by decide +kernel), rfl⟩
theorem cvX12_503 : CallV RX12 503 mX12_copyWord 11 2 := ⟨caX12_copyWord, gws_in 1826 (by decide +kernel) (by decide +kernel), gws_in 1828 (by decide +kernel) (by decide +kernel), gws_in 80 (by decide +kernel) (by decide +kernel), rfl⟩
theorem cvX12_506 : CallV RX12 506 mX12_isKeptWord 11 3 := ⟨caX12_isKeptWord, gws_in 1846 (by decide +kernel) (by decide +kernel), gws_in 1848 (by decide +kernel) (by decide +kernel), gws_in 82 (by decide +kernel) (by decide +kernel), rfl⟩
theorem cvX12_509 : CallV RX12 509 mX12_headLike 11 2 := ⟨caX12_headLike, gws_in 1842 (by decide +kernel) (by decide +kernel), gws_in 1844 (by decide +kernel) (by decide +kernel), gws_in 81 (by decide +kernel) (by decide +kernel), rfl⟩
theorem cvX12_512 : CallV RX12 512 mX12_subLike 11 4 := ⟨caX12_subLike, gws_in 1850 (by decide +kernel) (by decide +kernel), gws_in 1852 (by decide +kernel) (by decide +kernel), gws_in 83 (by decide +kernel) (by decide +kernel), rfl⟩
theorem cvX12_515 : CallV RX12 515 mX12_tickOld 11 3 := ⟨caX12_tickOld, gws_in 1854 (by decide +kernel) (by decide +kernel), gws_in 1856 (by decide +kernel) (by decide +kernel), gws_in 84 (by decide +kernel) (by decide +kernel), rfl⟩
theorem cvX12_519 : CallV RX12 519 mX12_staleRuns 11 0 := ⟨caX12_staleRuns, gws_in 1858 (by decide +kernel) (by decide +kernel), gws_in 1860 (by decide +kernel) (by decide +kernel), gws_in 85 (by decide +kernel) (by decide +kernel), rfl⟩
theorem cvJ0_495 : CallS RJ0 495 mJ1_charAt_3b067 2 := ⟨caJ1_charAt_3b067, gws_in 541 (by decide +kernel) (by decide +kernel), gws_in 542 (by decide +kernel) (by decide +kernel)⟩
theorem cvJ0_498 : CallS RJ0 498 mJ2_charAt_3b067 2 := ⟨caJ2_charAt_3b067, gws_in 552 (by decide +kernel) (by decide +kernel), gws_in 553 (by decide +kernel) (by decide +kernel)⟩
theorem cvJ0_1059 : CallS RJ0 1059 mJ3_checkIndex_8e157 3 := ⟨caJ3_checkIndex_8e157, gws_in 549 (by decide +kernel) (by decide +kernel), gws_in 550 (by decide +kernel) (by decide +kernel)⟩
theorem cvJ1_9 : CallS RJ1 9 mJ0_checkIndex_df160 2 := ⟨caJ0_checkIndex_df160, gws_in 544 (by decide +kernel) (by decide +kernel), gws_in 545 (by decide +kernel) (by decide +kernel)⟩
theorem cvJ2_48 : CallS RJ2 48 mJ2_length_9d52b 1 := ⟨caJ2_length_9d52b, gws_in 558 (by decide +kernel) (by decide +kernel), gws_in 559 (by decide +kernel) (by decide +kernel)⟩
theorem cvJ2_67 : CallS RJ2 67 mJ2_checkIndex_2214a 2 := ⟨caJ2_checkIndex_2214a, gws_in 555 (by decide +kernel) (by decide +kernel), gws_in 556 (by decide +kernel) (by decide +kernel)⟩
theorem cvJ2_71 : CallS RJ2 71 mJ2_getChar_3b067 2 := ⟨caJ2_getChar_3b067, gws_in 562 (by decide +kernel) (by decide +kernel), gws_in 563 (by decide +kernel) (by decide +kernel)⟩
theorem cvJ2_414 : CallS RJ2 414 mJ0_checkIndex_df160 2 := ⟨caJ0_checkIndex_df160, gws_in 561 (by decide +kernel) (by decide +kernel), gws_in 545 (by decide +kernel) (by decide +kernel)⟩
theorem cvL_15 : CallV RL 15 mX11_feed 10 2 := ⟨caX11_feed, gws_in 475 (by decide +kernel) (by decide +kernel), gws_in 476 (by decide +kernel) (by decide +kernel), gws_in 477 (by decide +kernel) (by decide +kernel), rfl⟩
theorem cvL_19 : CallV RL 19 mX12_feed 11 2 := ⟨caX12_feed, gws_in 1378 (by decide +kernel) (by decide +kernel), gws_in 1379 (by decide +kernel) (by decide +kernel), gws_in 1380 (by decide +kernel) (by decide +kernel), rfl⟩
theorem cvL_20 : CallV RL 20 mX11_read 10 0 := ⟨caX11_read, gws_in 483 (by decide +kernel) (by decide +kernel), gws_in 484 (by decide +kernel) (by decide +kernel), gws_in 485 (by decide +kernel) (by decide +kernel), rfl⟩
theorem cvL_24 : CallV RL 24 mX12_read 11 0 := ⟨caX12_read, gws_in 1387 (by decide +kernel) (by decide +kernel), gws_in 1388 (by decide +kernel) (by decide +kernel), gws_in 1389 (by decide +kernel) (by decide +kernel), rfl⟩
theorem cvL_25 : CallV RL 25 mX11_fault 10 0 := ⟨caX11_fault, gws_in 682 (by decide +kernel) (by decide +kernel), gws_in 683 (by decide +kernel) (by decide +kernel), gws_in 684 (by decide +kernel) (by decide +kernel), rfl⟩
theorem cvL_28 : CallV RL 28 mX12_fault 11 0 := ⟨caX12_fault, gws_in 1477 (by decide +kernel) (by decide +kernel), gws_in 1478 (by decide +kernel) (by decide +kernel), gws_in 1479 (by decide +kernel) (by decide +kernel), rfl⟩
theorem cvL_29 : CallV RL 29 mX11_count 10 1 := ⟨caX11_count, gws_in 686 (by decide +kernel) (by decide +kernel), gws_in 687 (by decide +kernel) (by decide +kernel), gws_in 688 (by decide +kernel) (by decide +kernel), rfl⟩
theorem cvL_33 : CallV RL 33 mX12_count 11 1 := ⟨caX12_count, gws_in 1481 (by decide +kernel) (by decide +kernel), gws_in 1482 (by decide +kernel) (by decide +kernel), gws_in 1483 (by decide +kernel) (by decide +kernel), rfl⟩
theorem cvL_34 : CallV RL 34 mX11_head 10 2 := ⟨caX11_head, gws_in 815 (by decide +kernel) (by decide +kernel), gws_in 816 (by decide +kernel) (by decide +kernel), gws_in 817 (by decide +kernel) (by decide +kernel), rfl⟩
theorem cvL_38 : CallV RL 38 mX12_head 11 2 := ⟨caX12_head, gws_in 1608 (by decide +kernel) (by decide +kernel), gws_in 1609 (by decide +kernel) (by decide +kernel), gws_in 1610 (by decide +kernel) (by decide +kernel), rfl⟩
theorem cvL_39 : CallV RL 39 mX11_name 10 3 := ⟨caX11_name, gws_in 822 (by decide +kernel) (by decide +kernel), gws_in 823 (by decide +kernel) (by decide +kernel), gws_in 824 (by decide +kernel) (by decide +kernel), rfl⟩
theorem cvL_43 : CallV RL 43 mX12_name 11 3 := ⟨caX12_name, gws_in 1620 (by decide +kernel) (by decide +kernel), gws_in 1621 (by decide +kernel) (by decide +kernel), gws_in 1622 (by decide +kernel) (by decide +kernel), rfl⟩
theorem cvL_44 : CallV RL 44 mX11_mark 10 2 := ⟨caX11_mark, gws_in 833 (by decide +kernel) (by decide +kernel), gws_in 834 (by decide +kernel) (by decide +kernel), gws_in 835 (by decide +kernel) (by decide +kernel), rfl⟩
theorem cvL_47 : CallV RL 47 mX12_mark 11 2 := ⟨caX12_mark, gws_in 1629 (by decide +kernel) (by decide +kernel), gws_in 1630 (by decide +kernel) (by decide +kernel), gws_in 1631 (by decide +kernel) (by decide +kernel), rfl⟩
theorem cvL_48 : CallV RL 48 mX11_add 10 5 := ⟨caX11_add, gws_in 841 (by decide +kernel) (by decide +kernel), gws_in 842 (by decide +kernel) (by decide +kernel), gws_in 843 (by decide +kernel) (by decide +kernel), rfl⟩
theorem cvL_52 : CallV RL 52 mX12_add 11 5 := ⟨caX12_add, gws_in 1633 (by decide +kernel) (by decide +kernel), gws_in 1634 (by decide +kernel) (by decide +kernel), gws_in 1635 (by decide +kernel) (by decide +kernel), rfl⟩
theorem cvL_53 : CallV RL 53 mX11_drop 10 1 := ⟨caX11_drop, gws_in 849 (by decide +kernel) (by decide +kernel), gws_in 850 (by decide +kernel) (by decide +kernel), gws_in 851 (by decide +kernel) (by decide +kernel), rfl⟩
theorem cvL_56 : CallV RL 56 mX12_drop 11 1 := ⟨caX12_drop, gws_in 1641 (by decide +kernel) (by decide +kernel), gws_in 1642 (by decide +kernel) (by decide +kernel), gws_in 1643 (by decide +kernel) (by decide +kernel), rfl⟩
theorem cvL_57 : CallV RL 57 mX11_asked 10 2 := ⟨caX11_asked, gws_in 861 (by decide +kernel) (by decide +kernel), gws_in 862 (by decide +kernel) (by decide +kernel), gws_in 863 (by decide +kernel) (by decide +kernel), rfl⟩
theorem cvL_60 : CallV RL 60 mX12_asked 11 2 := ⟨caX12_asked, gws_in 1649 (by decide +kernel) (by decide +kernel), gws_in 1650 (by decide +kernel) (by decide +kernel), gws_in 1651 (by decide +kernel) (by decide +kernel), rfl⟩
theorem cvL_61 : CallV RL 61 mX11_run 10 4 := ⟨caX11_run, gws_in 865 (by decide +kernel) (by decide +kernel), gws_in 866 (by decide +kernel) (by decide +kernel), gws_in 867 (by decide +kernel) (by decide +kernel), rfl⟩
theorem cvL_65 : CallV RL 65 mX12_run 11 4 := ⟨caX12_run, gws_in 1653 (by decide +kernel) (by decide +kernel), gws_in 1654 (by decide +kernel) (by decide +kernel), gws_in 1655 (by decide +kernel) (by decide +kernel), rfl⟩
theorem cvL_66 : CallV RL 66 mX11_order 10 1 := ⟨caX11_order, gws_in 869 (by decide +kernel) (by decide +kernel), gws_in 870 (by decide +kernel) (by decide +kernel), gws_in 871 (by decide +kernel) (by decide +kernel), rfl⟩
theorem cvL_69 : CallV RL 69 mX12_order 11 1 := ⟨caX12_order, gws_in 1658 (by decide +kernel) (by decide +kernel), gws_in 1659 (by decide +kernel) (by decide +kernel), gws_in 1660 (by decide +kernel) (by decide +kernel), rfl⟩
theorem cvL_70 : CallV RL 70 mX11_at 10 1 := ⟨caX11_at, gws_in 873 (by decide +kernel) (by decide +kernel), gws_in 874 (by decide +kernel) (by decide +kernel), gws_in 875 (by decide +kernel) (by decide +kernel), rfl⟩
theorem cvL_73 : CallV RL 73 mX12_at 11 1 := ⟨caX12_at, gws_in 1662 (by decide +kernel) (by decide +kernel), gws_in 1663 (by decide +kernel) (by decide +kernel), gws_in 1664 (by decide +kernel) (by decide +kernel), rfl⟩
theorem cvL_74 : CallV RL 74 mX11_subAt 10 2 := ⟨caX11_subAt, gws_in 877 (by decide +kernel) (by decide +kernel), gws_in 878 (by decide +kernel) (by decide +kernel), gws_in 879 (by decide +kernel) (by decide +kernel), rfl⟩
theorem cvL_77 : CallV RL 77 mX12_subAt 11 2 := ⟨caX12_subAt, gws_in 1666 (by decide +kernel) (by decide +kernel), gws_in 1667 (by decide +kernel) (by decide +kernel), gws_in 1668 (by decide +kernel) (by decide +kernel), rfl⟩
theorem cvL_78 : CallV RL 78 mX11_width 10 1 := ⟨caX11_width, gws_in 882 (by decide +kernel) (by decide +kernel), gws_in 883 (by decide +kernel) (by decide +kernel), gws_in 884 (by decide +kernel) (by decide +kernel), rfl⟩
theorem cvL_81 : CallV RL 81 mX12_width 11 1 := ⟨caX12_width, gws_in 1670 (by decide +kernel) (by decide +kernel), gws_in 1671 (by decide +kernel) (by decide +kernel), gws_in 1672 (by decide +kernel) (by decide +kernel), rfl⟩
theorem cvL_82 : CallV RL 82 mX11_print 10 1 := ⟨caX11_print, gws_in 886 (by decide +kernel) (by decide +kernel), gws_in 887 (by decide +kernel) (by decide +kernel), gws_in 888 (by decide +kernel) (by decide +kernel), rfl⟩
theorem cvL_85 : CallV RL 85 mX12_print 11 1 := ⟨caX12_print, gws_in 1676 (by decide +kernel) (by decide +kernel), gws_in 1677 (by decide +kernel) (by decide +kernel), gws_in 1678 (by decide +kernel) (by decide +kernel), rfl⟩
theorem cvL_86 : CallV RL 86 mX11_look 10 2 := ⟨caX11_look, gws_in 890 (by decide +kernel) (by decide +kernel), gws_in 891 (by decide +kernel) (by decide +kernel), gws_in 892 (by decide +kernel) (by decide +kernel), rfl⟩
theorem cvL_89 : CallV RL 89 mX12_look 11 2 := ⟨caX12_look, gws_in 1680 (by decide +kernel) (by decide +kernel), gws_in 1681 (by decide +kernel) (by decide +kernel), gws_in 1682 (by decide +kernel) (by decide +kernel), rfl⟩
theorem cvL_90 : CallV RL 90 mX11_steps 10 2 := ⟨caX11_steps, gws_in 903 (by decide +kernel) (by decide +kernel), gws_in 904 (by decide +kernel) (by decide +kernel), gws_in 905 (by decide +kernel) (by decide +kernel), rfl⟩
theorem cvL_93 : CallV RL 93 mX12_steps 11 2 := ⟨caX12_steps, gws_in 1684 (by decide +kernel) (by decide +kernel), gws_in 1685 (by decide +kernel) (by decide +kernel), gws_in 1686 (by decide +kernel) (by decide +kernel), rfl⟩
theorem cvL_94 : CallV RL 94 mX11_finds 10 2 := ⟨caX11_finds, gws_in 915 (by decide +kernel) (by decide +kernel), gws_in 916 (by decide +kernel) (by decide +kernel), gws_in 917 (by decide +kernel) (by decide +kernel), rfl⟩
theorem cvL_97 : CallV RL 97 mX12_finds 11 2 := ⟨caX12_finds, gws_in 1696 (by decide +kernel) (by decide +kernel), gws_in 1697 (by decide +kernel) (by decide +kernel), gws_in 1698 (by decide +kernel) (by decide +kernel), rfl⟩
theorem cvL_98 : CallV RL 98 mX11_trouble 10 2 := ⟨caX11_trouble, gws_in 938 (by decide +kernel) (by decide +kernel), gws_in 939 (by decide +kernel) (by decide +kernel), gws_in 940 (by decide +kernel) (by decide +kernel), rfl⟩
theorem cvL_101 : CallV RL 101 mX12_trouble 11 2 := ⟨caX12_trouble, gws_in 1701 (by decide +kernel) (by decide +kernel), gws_in 1702 (by decide +kernel) (by decide +kernel), gws_in 1703 (by decide +kernel) (by decide +kernel), rfl⟩
theorem cvL_102 : CallV RL 102 mX11_posted 10 1 := ⟨caX11_posted, gws_in 955 (by decide +kernel) (by decide +kernel), gws_in 956 (by decide +kernel) (by decide +kernel), gws_in 957 (by decide +kernel) (by decide +kernel), rfl⟩
theorem cvL_105 : CallV RL 105 mX12_posted 11 1 := ⟨caX12_posted, gws_in 1726 (by decide +kernel) (by decide +kernel), gws_in 1727 (by decide +kernel) (by decide +kernel), gws_in 1728 (by decide +kernel) (by decide +kernel), rfl⟩
theorem cvL_106 : CallV RL 106 mX11_posting 10 2 := ⟨caX11_posting, gws_in 969 (by decide +kernel) (by decide +kernel), gws_in 970 (by decide +kernel) (by decide +kernel), gws_in 971 (by decide +kernel) (by decide +kernel), rfl⟩
theorem cvL_109 : CallV RL 109 mX12_posting 11 2 := ⟨caX12_posting, gws_in 1738 (by decide +kernel) (by decide +kernel), gws_in 1739 (by decide +kernel) (by decide +kernel), gws_in 1740 (by decide +kernel) (by decide +kernel), rfl⟩
theorem cvL_110 : CallV RL 110 mX11_fit 10 2 := ⟨caX11_fit, gws_in 990 (by decide +kernel) (by decide +kernel), gws_in 991 (by decide +kernel) (by decide +kernel), gws_in 992 (by decide +kernel) (by decide +kernel), rfl⟩
theorem cvL_113 : CallV RL 113 mX12_fit 11 2 := ⟨caX12_fit, gws_in 1747 (by decide +kernel) (by decide +kernel), gws_in 1748 (by decide +kernel) (by decide +kernel), gws_in 1749 (by decide +kernel) (by decide +kernel), rfl⟩
theorem cvL_114 : CallV RL 114 mX11_putIn 10 2 := ⟨caX11_putIn, gws_in 1029 (by decide +kernel) (by decide +kernel), gws_in 1030 (by decide +kernel) (by decide +kernel), gws_in 1031 (by decide +kernel) (by decide +kernel), rfl⟩
theorem cvL_117 : CallV RL 117 mX12_putIn 11 2 := ⟨caX12_putIn, gws_in 1765 (by decide +kernel) (by decide +kernel), gws_in 1766 (by decide +kernel) (by decide +kernel), gws_in 1767 (by decide +kernel) (by decide +kernel), rfl⟩
theorem cvL_118 : CallV RL 118 mX11_takeOut 10 2 := ⟨caX11_takeOut, gws_in 1042 (by decide +kernel) (by decide +kernel), gws_in 1043 (by decide +kernel) (by decide +kernel), gws_in 1044 (by decide +kernel) (by decide +kernel), rfl⟩
theorem cvL_121 : CallV RL 121 mX12_takeOut 11 2 := ⟨caX12_takeOut, gws_in 1769 (by decide +kernel) (by decide +kernel), gws_in 1770 (by decide +kernel) (by decide +kernel), gws_in 1771 (by decide +kernel) (by decide +kernel), rfl⟩
theorem cvL_122 : CallV RL 122 mX11_stale 10 1 := ⟨caX11_stale, gws_in 1051 (by decide +kernel) (by decide +kernel), gws_in 1052 (by decide +kernel) (by decide +kernel), gws_in 1053 (by decide +kernel) (by decide +kernel), rfl⟩
theorem cvL_125 : CallV RL 125 mX12_stale 11 1 := ⟨caX12_stale, gws_in 1838 (by decide +kernel) (by decide +kernel), gws_in 1839 (by decide +kernel) (by decide +kernel), gws_in 1840 (by decide +kernel) (by decide +kernel), rfl⟩
theorem cvL_126 : CallV RL 126 mX11_saw 10 2 := ⟨caX11_saw, gws_in 1069 (by decide +kernel) (by decide +kernel), gws_in 1070 (by decide +kernel) (by decide +kernel), gws_in 1071 (by decide +kernel) (by decide +kernel), rfl⟩
theorem cvL_129 : CallV RL 129 mX12_saw 11 2 := ⟨caX12_saw, gws_in 1773 (by decide +kernel) (by decide +kernel), gws_in 1774 (by decide +kernel) (by decide +kernel), gws_in 1775 (by decide +kernel) (by decide +kernel), rfl⟩
theorem cvL_130 : CallV RL 130 mX11_forget 10 0 := ⟨caX11_forget, gws_in 1081 (by decide +kernel) (by decide +kernel), gws_in 1082 (by decide +kernel) (by decide +kernel), gws_in 1083 (by decide +kernel) (by decide +kernel), rfl⟩
theorem cvL_133 : CallV RL 133 mX12_forget 11 0 := ⟨caX12_forget, gws_in 1778 (by decide +kernel) (by decide +kernel), gws_in 1779 (by decide +kernel) (by decide +kernel), gws_in 1780 (by decide +kernel) (by decide +kernel), rfl⟩
theorem cvL_134 : CallV RL 134 mX11_story 10 2 := ⟨caX11_story, gws_in 1085 (by decide +kernel) (by decide +kernel), gws_in 1086 (by decide +kernel) (by decide +kernel), gws_in 1087 (by decide +kernel) (by decide +kernel), rfl⟩
theorem cvL_137 : CallV RL 137 mX12_story 11 2 := ⟨caX12_story, gws_in 1782 (by decide +kernel) (by decide +kernel), gws_in 1783 (by decide +kernel) (by decide +kernel), gws_in 1784 (by decide +kernel) (by decide +kernel), rfl⟩
theorem cvL_138 : CallV RL 138 mX11_near 10 2 := ⟨caX11_near, gws_in 1110 (by decide +kernel) (by decide +kernel), gws_in 1111 (by decide +kernel) (by decide +kernel), gws_in 1112 (by decide +kernel) (by decide +kernel), rfl⟩
theorem cvL_141 : CallV RL 141 mX12_near 11 2 := ⟨caX12_near, gws_in 1794 (by decide +kernel) (by decide +kernel), gws_in 1795 (by decide +kernel) (by decide +kernel), gws_in 1796 (by decide +kernel) (by decide +kernel), rfl⟩
theorem cvL_142 : CallV RL 142 mX11_join 10 2 := ⟨caX11_join, gws_in 1133 (by decide +kernel) (by decide +kernel), gws_in 1134 (by decide +kernel) (by decide +kernel), gws_in 1135 (by decide +kernel) (by decide +kernel), rfl⟩
theorem cvL_145 : CallV RL 145 mX12_join 11 2 := ⟨caX12_join, gws_in 1818 (by decide +kernel) (by decide +kernel), gws_in 1819 (by decide +kernel) (by decide +kernel), gws_in 1820 (by decide +kernel) (by decide +kernel), rfl⟩
theorem cvL_146 : CallV RL 146 mX11_keep 10 1 := ⟨caX11_keep, gws_in 1157 (by decide +kernel) (by decide +kernel), gws_in 1158 (by decide +kernel) (by decide +kernel), gws_in 1159 (by decide +kernel) (by decide +kernel), rfl⟩
theorem cvL_149 : CallV RL 149 mX12_keep 11 1 := ⟨caX12_keep, gws_in 1830 (by decide +kernel) (by decide +kernel), gws_in 1831 (by decide +kernel) (by decide +kernel), gws_in 1832 (by decide +kernel) (by decide +kernel), rfl⟩
theorem cvL_150 : CallV RL 150 mX11_goBack 10 1 := ⟨caX11_goBack, gws_in 1166 (by decide +kernel) (by decide +kernel), gws_in 1167 (by decide +kernel) (by decide +kernel), gws_in 1168 (by decide +kernel) (by decide +kernel), rfl⟩
theorem cvL_153 : CallV RL 153 mX12_goBack 11 1 := ⟨caX12_goBack, gws_in 1834 (by decide +kernel) (by decide +kernel), gws_in 1835 (by decide +kernel) (by decide +kernel), gws_in 1836 (by decide +kernel) (by decide +kernel), rfl⟩
theorem kcX1_28 : Cond.constant RX1 28 (iI (268435456)) ∈ gws := gws_in 1002 (by decide +kernel) (by decide +kernel)
theorem kcX12_466 : Cond.constant RX12 466 (iI (1000000)) ∈ gws := gws_in 1756 (by decide +kernel) (by decide +kernel)
theorem kcJ6_265 : Cond.constant RJ6 265 (iI (1431655765)) ∈ gws := gws_in 812 (by decide +kernel) (by decide +kernel)
theorem kcJ6_266 : Cond.constant RJ6 266 (iI (858993459)) ∈ gws := gws_in 813 (by decide +kernel) (by decide +kernel)
theorem kcJ6_267 : Cond.constant RJ6 267 (iI (252645135)) ∈ gws := gws_in 814 (by decide +kernel) (by decide +kernel)
theorem klX2_38 : Cond.constantLong RX2 38 (lI (-1)) ∈ gws := gws_in 926 (by decide +kernel) (by decide +kernel)
theorem klX10_38 : Cond.constantLong RX10 38 (lI (1152921504606846975)) ∈ gws := gws_in 1132 (by decide +kernel) (by decide +kernel)
theorem klL_13 : Cond.constantLong RL 13 (lI (4294967295)) ∈ gws := gws_in 1862 (by decide +kernel) (by decide +kernel)
theorem klX12_144 : Cond.constantLong RX12 144 (lI (8)) ∈ gws := gws_in 1382 (by decide +kernel) (by decide +kernel)
theorem klX12_153 : Cond.constantLong RX12 153 (lI (255)) ∈ gws := gws_in 1386 (by decide +kernel) (by decide +kernel)
theorem klX12_161 : Cond.constantLong RX12 161 (lI (97)) ∈ gws := gws_in 1410 (by decide +kernel) (by decide +kernel)
theorem klX12_163 : Cond.constantLong RX12 163 (lI (122)) ∈ gws := gws_in 1411 (by decide +kernel) (by decide +kernel)
theorem klX12_179 : Cond.constantLong RX12 179 (lI (12)) ∈ gws := gws_in 1432 (by decide +kernel) (by decide +kernel)
theorem klX12_206 : Cond.constantLong RX12 206 (lI (48)) ∈ gws := gws_in 1452 (by decide +kernel) (by decide +kernel)
theorem klX12_208 : Cond.constantLong RX12 208 (lI (57)) ∈ gws := gws_in 1453 (by decide +kernel) (by decide +kernel)
theorem klX12_265 : Cond.constantLong RX12 265 (lI (-1)) ∈ gws := gws_in 1628 (by decide +kernel) (by decide +kernel)
theorem klX12_309 : Cond.constantLong RX12 309 (lI (99)) ∈ gws := gws_in 1640 (by decide +kernel) (by decide +kernel)
theorem klX12_330 : Cond.constantLong RX12 330 (lI (2)) ∈ gws := gws_in 1657 (by decide +kernel) (by decide +kernel)
theorem klX12_351 : Cond.constantLong RX12 351 (lI (20)) ∈ gws := gws_in 1674 (by decide +kernel) (by decide +kernel)
theorem klX12_353 : Cond.constantLong RX12 353 (lI (80)) ∈ gws := gws_in 1675 (by decide +kernel) (by decide +kernel)
theorem klX12_424 : Cond.constantLong RX12 424 (lI (9)) ∈ gws := gws_in 1700 (by decide +kernel) (by decide +kernel)
theorem klX12_438 : Cond.constantLong RX12 438 (lI (6)) ∈ gws := gws_in 1705 (by decide +kernel) (by decide +kernel)
theorem klX12_458 : Cond.constantLong RX12 458 (lI (999)) ∈ gws := gws_in 1742 (by decide +kernel) (by decide +kernel)
theorem klX12_471 : Cond.constantLong RX12 471 (lI (200)) ∈ gws := gws_in 1751 (by decide +kernel) (by decide +kernel)
theorem klX12_476 : Cond.constantLong RX12 476 (lI (199)) ∈ gws := gws_in 1777 (by decide +kernel) (by decide +kernel)
theorem klJ13_314 : Cond.constantLong RJ13 314 (lI (6148914691236517205)) ∈ gws := gws_in 935 (by decide +kernel) (by decide +kernel)
theorem klJ13_316 : Cond.constantLong RJ13 316 (lI (3689348814741910323)) ∈ gws := gws_in 936 (by decide +kernel) (by decide +kernel)
theorem klJ13_318 : Cond.constantLong RJ13 318 (lI (1085102592571150095)) ∈ gws := gws_in 937 (by decide +kernel) (by decide +kernel)
theorem ksX5_92 : (RX5, 92, "mark", 7) ∈ strR := List.mem_of_getElem? (i := 0) rfl
theorem ksX5_98 : (RX5, 98, "see", 8) ∈ strR := List.mem_of_getElem? (i := 1) rfl
theorem ksX5_100 : (RX5, 100, "also", 4) ∈ strR := List.mem_of_getElem? (i := 2) rfl
theorem ksX5_102 : (RX5, 102, "asked", 5) ∈ strR := List.mem_of_getElem? (i := 3) rfl
theorem ksX5_128 : (RX5, 128, "main", 6) ∈ strR := List.mem_of_getElem? (i := 4) rfl
theorem ksX4_86 : (RX4, 86, "  ", 0) ∈ strR := List.mem_of_getElem? (i := 5) rfl
theorem ksX4_96 : (RX4, 96, "  see ", 1) ∈ strR := List.mem_of_getElem? (i := 6) rfl
theorem ksX4_102 : (RX4, 102, ", see ", 3) ∈ strR := List.mem_of_getElem? (i := 7) rfl
theorem ksX4_138 : (RX4, 138, "  see also ", 2) ∈ strR := List.mem_of_getElem? (i := 8) rfl
theorem cpX7_35 : Cond.methodLink RX7 35 arraycopyName ∈ gws ∧ Cond.native arraycopyName ∈ gws ∧ Cond.static arraycopyName ∈ gws ∧ Cond.initialized "java/lang/System" ∈ gws := ⟨gws_in 758 (by decide +kernel) (by decide +kernel), gws_in 760 (by decide +kernel) (by decide +kernel), gws_in 759 (by decide +kernel) (by decide +kernel), gws_in 105 (by decide +kernel) (by decide +kernel)⟩
theorem cpX0_58 : Cond.methodLink RX0 58 arraycopyName ∈ gws ∧ Cond.native arraycopyName ∈ gws ∧ Cond.static arraycopyName ∈ gws ∧ Cond.initialized "java/lang/System" ∈ gws := ⟨gws_in 1165 (by decide +kernel) (by decide +kernel), gws_in 760 (by decide +kernel) (by decide +kernel), gws_in 759 (by decide +kernel) (by decide +kernel), gws_in 105 (by decide +kernel) (by decide +kernel)⟩
