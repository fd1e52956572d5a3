set_option maxRecDepth 100000 in
theorem wl_0 : ∀ w ∈ u_ws RX0 TX0 8, w ∈ xtb := xwi [167, 169, 171, 173, 175, 177, 179, 181] (by decide +kernel) (by decide +kernel)
set_option maxRecDepth 100000 in
theorem wl_1 : ∀ w ∈ u_ws RX1 TX1 6, w ∈ xtb := xwi [192, 194, 196, 198, 200, 202] (by decide +kernel) (by decide +kernel)
set_option maxRecDepth 100000 in
theorem wl_2 : ∀ w ∈ u_ws RX2 TX2 5, w ∈ xtb := xwi [476, 478, 480, 482, 484] (by decide +kernel) (by decide +kernel)
set_option maxRecDepth 100000 in
theorem wl_3 : ∀ w ∈ u_ws RX3 TX3 7, w ∈ xtb := xwi [239, 241, 243, 245, 247, 249, 251] (by decide +kernel) (by decide +kernel)
set_option maxRecDepth 100000 in
theorem wl_4 : ∀ w ∈ u_ws RX4 TX4 7, w ∈ xtb := xwi [267, 269, 271, 273, 275, 277, 279] (by decide +kernel) (by decide +kernel)
set_option maxRecDepth 100000 in
theorem wl_5 : ∀ w ∈ u_ws RX5 TX5 3, w ∈ xtb := xwi [217, 219, 221] (by decide +kernel) (by decide +kernel)
set_option maxRecDepth 100000 in
theorem wl_6 : ∀ w ∈ u_ws RX6 TX6 7, w ∈ xtb := xwi [377, 379, 381, 383, 385, 387, 389] (by decide +kernel) (by decide +kernel)
set_option maxRecDepth 100000 in
theorem wl_7 : ∀ w ∈ u_ws RX7 TX7 6, w ∈ xtb := xwi [294, 296, 298, 300, 302, 304] (by decide +kernel) (by decide +kernel)
set_option maxRecDepth 100000 in
theorem wl_8 : ∀ w ∈ u_ws RX8 TX8 3, w ∈ xtb := xwi [363, 365, 367] (by decide +kernel) (by decide +kernel)
set_option maxRecDepth 100000 in
theorem wl_9 : ∀ w ∈ u_ws RX9 TX9 2, w ∈ xtb := xwi [141, 143] (by decide +kernel) (by decide +kernel)
set_option maxRecDepth 100000 in
theorem wl_10 : ∀ w ∈ u_ws RX10 TX10 11, w ∈ xtb := xwi [324, 326, 328, 330, 332, 334, 336, 338, 340, 342, 344] (by decide +kernel) (by decide +kernel)
set_option maxRecDepth 100000 in
theorem wl_11 : ∀ w ∈ u_ws RX11 TX11 9, w ∈ xtb := xwi [401, 403, 405, 407, 409, 411, 413, 415, 417] (by decide +kernel) (by decide +kernel)
set_option maxRecDepth 100000 in
theorem wl_12 : ∀ w ∈ u_ws RX12 TX12 66, w ∈ xtb := xwi [1312, 1314, 1316, 1318, 1320, 1322, 1324, 1326, 1328, 1330, 1332, 1334, 1336, 1338, 1340, 1342, 1344, 1346, 1348, 1350, 1352, 1354, 1356, 1358, 1360, 1362, 1364, 1366, 1368, 1370, 1372, 1374, 1376, 1378, 1380, 1382, 1384, 1386, 1388, 1390, 1392, 1394, 1396, 1398, 1400, 1402, 1404, 1406, 1408, 1410, 1412, 1414, 1416, 1418, 1420, 1422, 1424, 1426, 1428, 1430, 1432, 1434, 1436, 1438, 1440, 1442] (by decide +kernel) (by decide +kernel)
theorem cl_0 : xCl 0 := ⟨rfl, wl_0, tyX0_ok, nmX0⟩
theorem cl_1 : xCl 1 := ⟨rfl, wl_1, tyX1_ok, nmX1⟩
theorem cl_2 : xCl 2 := ⟨rfl, wl_2, tyX2_ok, nmX2⟩
theorem cl_3 : xCl 3 := ⟨rfl, wl_3, tyX3_ok, nmX3⟩
theorem cl_4 : xCl 4 := ⟨rfl, wl_4, tyX4_ok, nmX4⟩
theorem cl_5 : xCl 5 := ⟨rfl, wl_5, tyX5_ok, nmX5⟩
theorem cl_6 : xCl 6 := ⟨rfl, wl_6, tyX6_ok, nmX6⟩
theorem cl_7 : xCl 7 := ⟨rfl, wl_7, tyX7_ok, nmX7⟩
theorem cl_8 : xCl 8 := ⟨rfl, wl_8, tyX8_ok, nmX8⟩
theorem cl_9 : xCl 9 := ⟨rfl, wl_9, tyX9_ok, nmX9⟩
theorem cl_10 : xCl 10 := ⟨rfl, wl_10, tyX10_ok, nmX10⟩
theorem cl_11 : xCl 11 := ⟨rfl, wl_11, tyX11_ok, nmX11⟩
theorem cl_12 : xCl 12 := ⟨rfl, wl_12, tyX12_ok, nmX12⟩
theorem lk_RX0_15 : xLk RX0 15 0 1 := ⟨by decide, m_160⟩
theorem lk_RX0_18 : xLk RX0 18 0 2 := ⟨by decide, m_161⟩
theorem lk_RX0_21 : xLk RX0 21 0 3 := ⟨by decide, m_162⟩
theorem lk_RX0_24 : xLk RX0 24 0 4 := ⟨by decide, m_163⟩
theorem lk_RX0_27 : xLk RX0 27 0 5 := ⟨by decide, m_164⟩
theorem lk_RX0_31 : xLk RX0 31 0 6 := ⟨by decide, m_165⟩
theorem lk_RX0_35 : xLk RX0 35 0 7 := ⟨by decide, m_166⟩
theorem lk_RX0_9 : xLk RX0 9 0 0 := ⟨by decide, m_159⟩
theorem lk_RX10_15 : xLk RX10 15 10 2 := ⟨by decide, m_315⟩
theorem lk_RX10_18 : xLk RX10 18 10 3 := ⟨by decide, m_316⟩
theorem lk_RX10_21 : xLk RX10 21 10 4 := ⟨by decide, m_317⟩
theorem lk_RX10_24 : xLk RX10 24 10 5 := ⟨by decide, m_318⟩
theorem lk_RX10_28 : xLk RX10 28 10 6 := ⟨by decide, m_319⟩
theorem lk_RX10_32 : xLk RX10 32 10 8 := ⟨by decide, m_321⟩
theorem lk_RX10_36 : xLk RX10 36 10 10 := ⟨by decide, m_323⟩
theorem lk_RX10_39 : xLk RX10 39 10 0 := ⟨by decide, m_313⟩
theorem lk_RX10_57 : xLk RX10 57 10 9 := ⟨by decide, m_322⟩
theorem lk_RX10_60 : xLk RX10 60 10 7 := ⟨by decide, m_320⟩
theorem lk_RX10_9 : xLk RX10 9 10 1 := ⟨by decide, m_314⟩
theorem lk_RX11_10 : xLk RX11 10 11 0 := ⟨by decide, m_392⟩
theorem lk_RX11_19 : xLk RX11 19 11 1 := ⟨by decide, m_393⟩
theorem lk_RX11_26 : xLk RX11 26 11 2 := ⟨by decide, m_394⟩
theorem lk_RX11_35 : xLk RX11 35 11 3 := ⟨by decide, m_395⟩
theorem lk_RX11_42 : xLk RX11 42 11 4 := ⟨by decide, m_396⟩
theorem lk_RX11_49 : xLk RX11 49 11 5 := ⟨by decide, m_397⟩
theorem lk_RX11_56 : xLk RX11 56 11 6 := ⟨by decide, m_398⟩
theorem lk_RX11_65 : xLk RX11 65 11 7 := ⟨by decide, m_399⟩
theorem lk_RX11_69 : xLk RX11 69 11 8 := ⟨by decide, m_400⟩
theorem lk_RX12_102 : xLk RX12 102 12 46 := ⟨by decide, m_1292⟩
theorem lk_RX12_105 : xLk RX12 105 12 47 := ⟨by decide, m_1293⟩
theorem lk_RX12_108 : xLk RX12 108 12 48 := ⟨by decide, m_1294⟩
theorem lk_RX12_111 : xLk RX12 111 12 49 := ⟨by decide, m_1295⟩
theorem lk_RX12_114 : xLk RX12 114 12 50 := ⟨by decide, m_1296⟩
theorem lk_RX12_117 : xLk RX12 117 12 51 := ⟨by decide, m_1297⟩
theorem lk_RX12_120 : xLk RX12 120 12 52 := ⟨by decide, m_1298⟩
theorem lk_RX12_123 : xLk RX12 123 12 57 := ⟨by decide, m_1303⟩
theorem lk_RX12_126 : xLk RX12 126 12 58 := ⟨by decide, m_1304⟩
theorem lk_RX12_129 : xLk RX12 129 12 59 := ⟨by decide, m_1305⟩
theorem lk_RX12_13 : xLk RX12 13 12 5 := ⟨by decide, m_1251⟩
theorem lk_RX12_132 : xLk RX12 132 12 60 := ⟨by decide, m_1306⟩
theorem lk_RX12_136 : xLk RX12 136 12 62 := ⟨by decide, m_1308⟩
theorem lk_RX12_139 : xLk RX12 139 12 63 := ⟨by decide, m_1309⟩
theorem lk_RX12_145 : xLk RX12 145 12 65 := ⟨by decide, m_1311⟩
theorem lk_RX12_148 : xLk RX12 148 12 54 := ⟨by decide, m_1300⟩
theorem lk_RX12_152 : xLk RX12 152 12 2 := ⟨by decide, m_1248⟩
theorem lk_RX12_155 : xLk RX12 155 12 1 := ⟨by decide, m_1247⟩
theorem lk_RX12_16 : xLk RX12 16 12 6 := ⟨by decide, m_1252⟩
theorem lk_RX12_165 : xLk RX12 165 12 0 := ⟨by decide, m_1246⟩
theorem lk_RX12_19 : xLk RX12 19 12 7 := ⟨by decide, m_1253⟩
theorem lk_RX12_203 : xLk RX12 203 12 11 := ⟨by decide, m_1257⟩
theorem lk_RX12_210 : xLk RX12 210 12 12 := ⟨by decide, m_1258⟩
theorem lk_RX12_213 : xLk RX12 213 12 13 := ⟨by decide, m_1259⟩
theorem lk_RX12_22 : xLk RX12 22 12 8 := ⟨by decide, m_1254⟩
theorem lk_RX12_220 : xLk RX12 220 12 14 := ⟨by decide, m_1260⟩
theorem lk_RX12_226 : xLk RX12 226 12 19 := ⟨by decide, m_1265⟩
theorem lk_RX12_233 : xLk RX12 233 12 16 := ⟨by decide, m_1262⟩
theorem lk_RX12_237 : xLk RX12 237 12 15 := ⟨by decide, m_1261⟩
theorem lk_RX12_240 : xLk RX12 240 12 17 := ⟨by decide, m_1263⟩
theorem lk_RX12_25 : xLk RX12 25 12 9 := ⟨by decide, m_1255⟩
theorem lk_RX12_287 : xLk RX12 287 12 18 := ⟨by decide, m_1264⟩
theorem lk_RX12_29 : xLk RX12 29 12 10 := ⟨by decide, m_1256⟩
theorem lk_RX12_299 : xLk RX12 299 12 20 := ⟨by decide, m_1266⟩
theorem lk_RX12_322 : xLk RX12 322 12 34 := ⟨by decide, m_1280⟩
theorem lk_RX12_328 : xLk RX12 328 12 37 := ⟨by decide, m_1283⟩
theorem lk_RX12_33 : xLk RX12 33 12 21 := ⟨by decide, m_1267⟩
theorem lk_RX12_339 : xLk RX12 339 12 3 := ⟨by decide, m_1249⟩
theorem lk_RX12_36 : xLk RX12 36 12 22 := ⟨by decide, m_1268⟩
theorem lk_RX12_374 : xLk RX12 374 12 53 := ⟨by decide, m_1299⟩
theorem lk_RX12_377 : xLk RX12 377 12 55 := ⟨by decide, m_1301⟩
theorem lk_RX12_380 : xLk RX12 380 12 56 := ⟨by decide, m_1302⟩
theorem lk_RX12_39 : xLk RX12 39 12 23 := ⟨by decide, m_1269⟩
theorem lk_RX12_42 : xLk RX12 42 12 24 := ⟨by decide, m_1270⟩
theorem lk_RX12_439 : xLk RX12 439 12 61 := ⟨by decide, m_1307⟩
theorem lk_RX12_45 : xLk RX12 45 12 25 := ⟨by decide, m_1271⟩
theorem lk_RX12_48 : xLk RX12 48 12 26 := ⟨by decide, m_1272⟩
theorem lk_RX12_51 : xLk RX12 51 12 27 := ⟨by decide, m_1273⟩
theorem lk_RX12_54 : xLk RX12 54 12 28 := ⟨by decide, m_1274⟩
theorem lk_RX12_57 : xLk RX12 57 12 29 := ⟨by decide, m_1275⟩
theorem lk_RX12_60 : xLk RX12 60 12 30 := ⟨by decide, m_1276⟩
theorem lk_RX12_63 : xLk RX12 63 12 31 := ⟨by decide, m_1277⟩
theorem lk_RX12_66 : xLk RX12 66 12 32 := ⟨by decide, m_1278⟩
theorem lk_RX12_69 : xLk RX12 69 12 33 := ⟨by decide, m_1279⟩
theorem lk_RX12_7 : xLk RX12 7 12 4 := ⟨by decide, m_1250⟩
theorem lk_RX12_72 : xLk RX12 72 12 35 := ⟨by decide, m_1281⟩
theorem lk_RX12_75 : xLk RX12 75 12 36 := ⟨by decide, m_1282⟩
theorem lk_RX12_78 : xLk RX12 78 12 38 := ⟨by decide, m_1284⟩
theorem lk_RX12_81 : xLk RX12 81 12 39 := ⟨by decide, m_1285⟩
theorem lk_RX12_84 : xLk RX12 84 12 40 := ⟨by decide, m_1286⟩
theorem lk_RX12_87 : xLk RX12 87 12 41 := ⟨by decide, m_1287⟩
theorem lk_RX12_90 : xLk RX12 90 12 42 := ⟨by decide, m_1288⟩
theorem lk_RX12_93 : xLk RX12 93 12 43 := ⟨by decide, m_1289⟩
theorem lk_RX12_96 : xLk RX12 96 12 44 := ⟨by decide, m_1290⟩
theorem lk_RX12_99 : xLk RX12 99 12 45 := ⟨by decide, m_1291⟩
theorem lk_RX1_18 : xLk RX1 18 1 1 := ⟨by decide, m_187⟩
theorem lk_RX1_22 : xLk RX1 22 1 2 := ⟨by decide, m_188⟩
theorem lk_RX1_33 : xLk RX1 33 1 3 := ⟨by decide, m_189⟩
theorem lk_RX1_42 : xLk RX1 42 1 4 := ⟨by decide, m_190⟩
theorem lk_RX1_45 : xLk RX1 45 1 5 := ⟨by decide, m_191⟩
theorem lk_RX1_9 : xLk RX1 9 1 0 := ⟨by decide, m_186⟩
theorem lk_RX2_19 : xLk RX2 19 2 1 := ⟨by decide, m_468⟩
theorem lk_RX2_22 : xLk RX2 22 2 2 := ⟨by decide, m_473⟩
theorem lk_RX2_37 : xLk RX2 37 2 4 := ⟨by decide, m_475⟩
theorem lk_RX2_9 : xLk RX2 9 2 3 := ⟨by decide, m_474⟩
theorem lk_RX3_102 : xLk RX3 102 3 6 := ⟨by decide, m_238⟩
theorem lk_RX3_11 : xLk RX3 11 3 1 := ⟨by decide, m_233⟩
theorem lk_RX3_17 : xLk RX3 17 3 2 := ⟨by decide, m_234⟩
theorem lk_RX3_21 : xLk RX3 21 3 3 := ⟨by decide, m_235⟩
theorem lk_RX3_24 : xLk RX3 24 3 4 := ⟨by decide, m_236⟩
theorem lk_RX3_27 : xLk RX3 27 3 0 := ⟨by decide, m_232⟩
theorem lk_RX3_31 : xLk RX3 31 3 5 := ⟨by decide, m_237⟩
theorem lk_RX4_15 : xLk RX4 15 4 1 := ⟨by decide, m_261⟩
theorem lk_RX4_18 : xLk RX4 18 4 2 := ⟨by decide, m_262⟩
theorem lk_RX4_21 : xLk RX4 21 4 3 := ⟨by decide, m_263⟩
theorem lk_RX4_24 : xLk RX4 24 4 4 := ⟨by decide, m_264⟩
theorem lk_RX4_27 : xLk RX4 27 4 5 := ⟨by decide, m_265⟩
theorem lk_RX4_30 : xLk RX4 30 4 6 := ⟨by decide, m_266⟩
theorem lk_RX4_9 : xLk RX4 9 4 0 := ⟨by decide, m_260⟩
theorem lk_RX5_15 : xLk RX5 15 5 1 := ⟨by decide, m_215⟩
theorem lk_RX5_18 : xLk RX5 18 5 2 := ⟨by decide, m_216⟩
theorem lk_RX5_9 : xLk RX5 9 5 0 := ⟨by decide, m_214⟩
theorem lk_RX6_15 : xLk RX6 15 6 3 := ⟨by decide, m_373⟩
theorem lk_RX6_22 : xLk RX6 22 6 4 := ⟨by decide, m_374⟩
theorem lk_RX6_26 : xLk RX6 26 6 5 := ⟨by decide, m_375⟩
theorem lk_RX6_29 : xLk RX6 29 6 6 := ⟨by decide, m_376⟩
theorem lk_RX6_32 : xLk RX6 32 6 0 := ⟨by decide, m_370⟩
theorem lk_RX6_36 : xLk RX6 36 6 1 := ⟨by decide, m_371⟩
theorem lk_RX6_9 : xLk RX6 9 6 2 := ⟨by decide, m_372⟩
theorem lk_RX7_11 : xLk RX7 11 7 0 := ⟨by decide, m_288⟩
theorem lk_RX7_15 : xLk RX7 15 7 1 := ⟨by decide, m_289⟩
theorem lk_RX7_18 : xLk RX7 18 7 2 := ⟨by decide, m_290⟩
theorem lk_RX7_21 : xLk RX7 21 7 3 := ⟨by decide, m_291⟩
theorem lk_RX7_24 : xLk RX7 24 7 4 := ⟨by decide, m_292⟩
theorem lk_RX7_27 : xLk RX7 27 7 5 := ⟨by decide, m_293⟩
theorem lk_RX8_11 : xLk RX8 11 8 0 := ⟨by decide, m_360⟩
theorem lk_RX8_15 : xLk RX8 15 8 1 := ⟨by decide, m_361⟩
theorem lk_RX8_19 : xLk RX8 19 8 2 := ⟨by decide, m_362⟩
theorem lk_RX9_15 : xLk RX9 15 9 1 := ⟨by decide, m_140⟩
theorem lk_RX9_9 : xLk RX9 9 9 0 := ⟨by decide, m_139⟩
theorem ln_RX10_93 : xLn RX10 93 2 1 := ⟨by decide, _, List.mem_of_getElem? (i := 4) rfl⟩
theorem ln_RX11_175 : xLn RX11 175 2 0 := ⟨by decide, _, List.mem_of_getElem? (i := 1) rfl⟩
theorem ln_RX11_329 : xLn RX11 329 2 1 := ⟨by decide, _, List.mem_of_getElem? (i := 5) rfl⟩
theorem ln_RX3_57 : xLn RX3 57 2 1 := ⟨by decide, _, List.mem_of_getElem? (i := 3) rfl⟩
theorem ln_RX3_64 : xLn RX3 64 2 0 := ⟨by decide, _, List.mem_of_getElem? (i := 0) rfl⟩
theorem ln_RX6_69 : xLn RX6 69 2 1 := ⟨by decide, _, List.mem_of_getElem? (i := 2) rfl⟩
theorem xnm_0 : (RX11, 9, yX9_init, RX11) ∈ xnm := List.mem_of_getElem? (i := 0) rfl
theorem xnm_1 : (RX11, 18, yX1_init, RX11) ∈ xnm := List.mem_of_getElem? (i := 1) rfl
theorem xnm_2 : (RX1, 17, yX0_init, RX11) ∈ xnm := List.mem_of_getElem? (i := 2) rfl
theorem xnm_3 : (RX11, 41, yX4_init, RX11) ∈ xnm := List.mem_of_getElem? (i := 3) rfl
theorem xnm_4 : (RX11, 48, yX7_init, RX11) ∈ xnm := List.mem_of_getElem? (i := 4) rfl
theorem xnm_5 : (RX6, 21, yX8_init, RX11) ∈ xnm := List.mem_of_getElem? (i := 5) rfl
theorem xnm_6 : (RX1, 29, yX11_held, RX11) ∈ xnm := List.mem_of_getElem? (i := 6) rfl
theorem xnm_7 : (RX0, 44, yX11_held, RX11) ∈ xnm := List.mem_of_getElem? (i := 7) rfl
theorem xnm_8 : (RX4, 34, yX11_held, RX11) ∈ xnm := List.mem_of_getElem? (i := 8) rfl
theorem xnm_9 : (RX7, 53, yX11_isPerson, RX11) ∈ xnm := List.mem_of_getElem? (i := 9) rfl
theorem xnm_10 : (RX10, 43, yX11_isPerson, RX11) ∈ xnm := List.mem_of_getElem? (i := 10) rfl
theorem xnm_11 : (RX10, 53, yX11_within, RX11) ∈ xnm := List.mem_of_getElem? (i := 11) rfl
theorem xnm_12 : (RX10, 102, yX11_held, RX11) ∈ xnm := List.mem_of_getElem? (i := 12) rfl
theorem xnm_13 : (RX10, 126, yX11_leftOver, RX11) ∈ xnm := List.mem_of_getElem? (i := 13) rfl
abbrev Y_X0_init : xY := (yX0_init, cX0_init, 1, none)
abbrev Y_X0_empty : xY := (yX0_empty, cX0_empty, 1, none)
abbrev Y_X0_length : xY := (yX0_length, cX0_length, 1, (some .int))
abbrev Y_X0_emit : xY := (yX0_emit, cX0_emit, 2, none)
abbrev Y_X0_openClause : xY := (yX0_openClause, cX0_openClause, 2, none)
abbrev Y_X0_openCondition : xY := (yX0_openCondition, cX0_openCondition, 1, none)
abbrev Y_X0_closeClause : xY := (yX0_closeClause, cX0_closeClause, 1, none)
abbrev Y_X0_amount : xY := (yX0_amount, cX0_amount, 7, (some .int))
abbrev Y_X0_reckon : xY := (yX0_reckon, cX0_reckon, 8, (some .long))
abbrev Y_X0_valueOf : xY := (yX0_valueOf, cX0_valueOf, 3, (some .int))
abbrev Y_X0_not : xY := (yX0_not, cX0_not, 2, (some .long))
abbrev Y_X0_join : xY := (yX0_join, cX0_join, 7, (some .long))
abbrev Y_X0_isFact : xY := (yX0_isFact, cX0_isFact, 1, (some .boolean))
abbrev Y_X1_init : xY := (yX1_init, cX1_init, 1, none)
abbrev Y_X1_current : xY := (yX1_current, cX1_current, 1, (some (.object "LateMinutes$Law")))
abbrev Y_X1_clauses : xY := (yX1_clauses, cX1_clauses, 1, (some .int))
abbrev Y_X1_read : xY := (yX1_read, cX1_read, 4, (some .int))
abbrev Y_X1_readClause : xY := (yX1_readClause, cX1_readClause, 2, none)
abbrev Y_X1_readChoice : xY := (yX1_readChoice, cX1_readChoice, 5, none)
abbrev Y_X1_readPiece : xY := (yX1_readPiece, cX1_readPiece, 4, none)
abbrev Y_X1_readDenied : xY := (yX1_readDenied, cX1_readDenied, 2, none)
abbrev Y_X1_readSum : xY := (yX1_readSum, cX1_readSum, 6, none)
abbrev Y_X1_readFactor : xY := (yX1_readFactor, cX1_readFactor, 5, none)
abbrev Y_X1_opens : xY := (yX1_opens, cX1_opens, 2, (some .boolean))
abbrev Y_X1_pass : xY := (yX1_pass, cX1_pass, 2, none)
abbrev Y_X1_sign : xY := (yX1_sign, cX1_sign, 1, (some .int))
abbrev Y_X1_stop : xY := (yX1_stop, cX1_stop, 2, none)
abbrev Y_X1_isOperator : xY := (yX1_isOperator, cX1_isOperator, 1, (some .boolean))
abbrev Y_X1_isDigit : xY := (yX1_isDigit, cX1_isDigit, 1, (some .boolean))
abbrev Y_X2_init : xY := (yX2_init, cX2_init, 4, none)
abbrev Y_X2_includes : xY := (yX2_includes, cX2_includes, 2, (some .boolean))
abbrev Y_X2_many : xY := (yX2_many, cX2_many, 1, (some .int))
abbrev Y_X2_hour : xY := (yX2_hour, cX2_hour, 1, (some .int))
abbrev Y_X2_isSettled : xY := (yX2_isSettled, cX2_isSettled, 1, (some .boolean))
abbrev Y_X2_close : xY := (yX2_close, cX2_close, 1, none)
abbrev Y_X2_tell : xY := (yX2_tell, cX2_tell, 3, none)
abbrev Y_X2_comingOf : xY := (yX2_comingOf, cX2_comingOf, 2, (some .int))
abbrev Y_X2_start : xY := (yX2_start, cX2_start, 3, (some .int))
abbrev Y_X2_keeper : xY := (yX2_keeper, cX2_keeper, 4, (some .int))
abbrev Y_X2_lateness : xY := (yX2_lateness, cX2_lateness, 2, (some .int))
abbrev Y_X2_waitFor : xY := (yX2_waitFor, cX2_waitFor, 3, (some .int))
abbrev Y_X2_laterThan : xY := (yX2_laterThan, cX2_laterThan, 5, (some .int))
abbrev Y_X2_waitedByAll : xY := (yX2_waitedByAll, cX2_waitedByAll, 4, (some .int))
abbrev Y_X3_init : xY := (yX3_init, cX3_init, 2, none)
abbrev Y_X3_length : xY := (yX3_length, cX3_length, 1, (some .int))
abbrev Y_X3_find : xY := (yX3_find, cX3_find, 2, (some (.object "LateMinutes$Meeting")))
abbrev Y_X3_add : xY := (yX3_add, cX3_add, 4, (some .int))
abbrev Y_X3_settledOnes : xY := (yX3_settledOnes, cX3_settledOnes, 4, (some .int))
abbrev Y_X3_waitedAtSettled : xY := (yX3_waitedAtSettled, cX3_waitedAtSettled, 4, (some .int))
abbrev Y_X3_keeperAt : xY := (yX3_keeperAt, cX3_keeperAt, 3, (some .int))
abbrev Y_X3_keptBy : xY := (yX3_keptBy, cX3_keptBy, 8, (some .int))
abbrev Y_X3_didKeep : xY := (yX3_didKeep, cX3_didKeep, 5, (some .boolean))
abbrev Y_X3_gather : xY := (yX3_gather, cX3_gather, 5, (some (.array .int)))
abbrev Y_X3_putFact : xY := (yX3_putFact, cX3_putFact, 4, none)
abbrev Y_X3_follow : xY := (yX3_follow, cX3_follow, 11, none)
abbrev Y_X3_payers : xY := (yX3_payers, cX3_payers, 1, (some .int))
abbrev Y_X3_payerAt : xY := (yX3_payerAt, cX3_payerAt, 2, (some .int))
abbrev Y_X3_paidAt : xY := (yX3_paidAt, cX3_paidAt, 2, (some .int))
abbrev Y_X4_init : xY := (yX4_init, cX4_init, 1, none)
abbrev Y_X4_length : xY := (yX4_length, cX4_length, 1, (some .int))
abbrev Y_X4_holds : xY := (yX4_holds, cX4_holds, 2, (some .boolean))
abbrev Y_X4_add : xY := (yX4_add, cX4_add, 6, (some .int))
abbrev Y_X4_dropFrom : xY := (yX4_dropFrom, cX4_dropFrom, 2, none)
abbrev Y_X4_owerOf : xY := (yX4_owerOf, cX4_owerOf, 2, (some .int))
abbrev Y_X4_holderOf : xY := (yX4_holderOf, cX4_holderOf, 2, (some .int))
abbrev Y_X4_minutesOf : xY := (yX4_minutesOf, cX4_minutesOf, 2, (some .int))
abbrev Y_X4_madeOn : xY := (yX4_madeOn, cX4_madeOn, 2, (some .int))
abbrev Y_X4_lapsesOn : xY := (yX4_lapsesOn, cX4_lapsesOn, 2, (some .int))
abbrev Y_X4_isLive : xY := (yX4_isLive, cX4_isLive, 3, (some .boolean))
abbrev Y_X4_handTo : xY := (yX4_handTo, cX4_handTo, 3, none)
abbrev Y_X4_split : xY := (yX4_split, cX4_split, 4, (some .int))
abbrev Y_X4_lessen : xY := (yX4_lessen, cX4_lessen, 3, none)
abbrev Y_X4_sumOf : xY := (yX4_sumOf, cX4_sumOf, 6, (some .int))
abbrev Y_X4_callIn : xY := (yX4_callIn, cX4_callIn, 12, (some .long))
abbrev Y_X4_useOn : xY := (yX4_useOn, cX4_useOn, 5, (some .int))
abbrev Y_X4_firstWrong : xY := (yX4_firstWrong, cX4_firstWrong, 6, (some .int))
abbrev Y_X5_init : xY := (yX5_init, cX5_init, 1, none)
abbrev Y_X5_slot : xY := (yX5_slot, cX5_slot, 2, (some .int))
abbrev Y_X5_add : xY := (yX5_add, cX5_add, 3, none)
abbrev Y_X5_setWorth : xY := (yX5_setWorth, cX5_setWorth, 5, none)
abbrev Y_X5_worthAt : xY := (yX5_worthAt, cX5_worthAt, 4, (some .int))
abbrev Y_X5_givenIn : xY := (yX5_givenIn, cX5_givenIn, 4, (some .int))
abbrev Y_X5_takenIn : xY := (yX5_takenIn, cX5_takenIn, 4, (some .int))
abbrev Y_X5_countTaking : xY := (yX5_countTaking, cX5_countTaking, 5, none)
abbrev Y_X5_emptyHours : xY := (yX5_emptyHours, cX5_emptyHours, 1, none)
abbrev Y_X6_init : xY := (yX6_init, cX6_init, 3, none)
abbrev Y_X6_aheadOf : xY := (yX6_aheadOf, cX6_aheadOf, 2, (some .int))
abbrev Y_X6_comeToRest : xY := (yX6_comeToRest, cX6_comeToRest, 7, (some .int))
abbrev Y_X6_cheapest : xY := (yX6_cheapest, cX6_cheapest, 7, (some .int))
abbrev Y_X6_gatherOthers : xY := (yX6_gatherOthers, cX6_gatherOthers, 9, none)
abbrev Y_X6_spreadLasts : xY := (yX6_spreadLasts, cX6_spreadLasts, 4, none)
abbrev Y_X6_weightsWithout : xY := (yX6_weightsWithout, cX6_weightsWithout, 7, (some .long))
abbrev Y_X6_costOf : xY := (yX6_costOf, cX6_costOf, 11, (some .long))
abbrev Y_X7_init : xY := (yX7_init, cX7_init, 1, none)
abbrev Y_X7_load : xY := (yX7_load, cX7_load, 6, none)
abbrev Y_X7_leastLeft : xY := (yX7_leastLeft, cX7_leastLeft, 4, (some .int))
abbrev Y_X7_measure : xY := (yX7_measure, cX7_measure, 4, none)
abbrev Y_X7_widen : xY := (yX7_widen, cX7_widen, 4, (some .boolean))
abbrev Y_X7_length : xY := (yX7_length, cX7_length, 3, (some .int))
abbrev Y_X7_room : xY := (yX7_room, cX7_room, 4, (some .int))
abbrev Y_X7_leftFrom : xY := (yX7_leftFrom, cX7_leftFrom, 3, (some .int))
abbrev Y_X7_dueFrom : xY := (yX7_dueFrom, cX7_dueFrom, 3, (some .int))
abbrev Y_X7_nearestTaker : xY := (yX7_nearestTaker, cX7_nearestTaker, 4, (some .int))
abbrev Y_X7_send : xY := (yX7_send, cX7_send, 6, (some .int))
abbrev Y_X7_moveAlong : xY := (yX7_moveAlong, cX7_moveAlong, 6, none)
abbrev Y_X7_fewestPayments : xY := (yX7_fewestPayments, cX7_fewestPayments, 6, (some .int))
abbrev Y_X8_init : xY := (yX8_init, cX8_init, 1, none)
abbrev Y_X8_empty : xY := (yX8_empty, cX8_empty, 1, none)
abbrev Y_X8_length : xY := (yX8_length, cX8_length, 1, (some .int))
abbrev Y_X8_minuteAt : xY := (yX8_minuteAt, cX8_minuteAt, 2, (some .int))
abbrev Y_X8_weightAt : xY := (yX8_weightAt, cX8_weightAt, 2, (some .long))
abbrev Y_X8_add : xY := (yX8_add, cX8_add, 5, none)
abbrev Y_X8_above : xY := (yX8_above, cX8_above, 5, (some .long))
abbrev Y_X8_below : xY := (yX8_below, cX8_below, 5, (some .long))
abbrev Y_X9_init : xY := (yX9_init, cX9_init, 1, none)
abbrev Y_X9_length : xY := (yX9_length, cX9_length, 1, (some .int))
abbrev Y_X9_put : xY := (yX9_put, cX9_put, 3, none)
abbrev Y_X9_empty : xY := (yX9_empty, cX9_empty, 1, none)
abbrev Y_X9_byteAt : xY := (yX9_byteAt, cX9_byteAt, 2, (some .int))
abbrev Y_X9_wordAt : xY := (yX9_wordAt, cX9_wordAt, 4, (some .int))
abbrev Y_X10_init : xY := (yX10_init, cX10_init, 3, none)
abbrev Y_X10_tell : xY := (yX10_tell, cX10_tell, 4, (some .int))
abbrev Y_X10_toldBy : xY := (yX10_toldBy, cX10_toldBy, 2, (some .int))
abbrev Y_X10_endsOf : xY := (yX10_endsOf, cX10_endsOf, 2, (some .int))
abbrev Y_X10_weightOf : xY := (yX10_weightOf, cX10_weightOf, 3, (some .int))
abbrev Y_X10_weightsOf : xY := (yX10_weightsOf, cX10_weightsOf, 2, (some .int))
abbrev Y_X10_takes : xY := (yX10_takes, cX10_takes, 4, (some .int))
abbrev Y_X10_setBridge : xY := (yX10_setBridge, cX10_setBridge, 4, none)
abbrev Y_X10_allOfBridge : xY := (yX10_allOfBridge, cX10_allOfBridge, 1, (some .int))
abbrev Y_X10_bridgeWeight : xY := (yX10_bridgeWeight, cX10_bridgeWeight, 2, (some .int))
abbrev Y_X10_isCrossing : xY := (yX10_isCrossing, cX10_isCrossing, 2, (some .boolean))
abbrev Y_X10_setCrossing : xY := (yX10_setCrossing, cX10_setCrossing, 3, none)
abbrev Y_X10_lateWeights : xY := (yX10_lateWeights, cX10_lateWeights, 5, (some .int))
abbrev Y_X10_lateEnds : xY := (yX10_lateEnds, cX10_lateEnds, 6, (some .int))
abbrev Y_X10_lateTogether : xY := (yX10_lateTogether, cX10_lateTogether, 7, (some .long))
abbrev Y_X10_countLate : xY := (yX10_countLate, cX10_countLate, 10, none)
abbrev Y_X10_costOfComing : xY := (yX10_costOfComing, cX10_costOfComing, 6, (some .long))
abbrev Y_X10_costOfWay : xY := (yX10_costOfWay, cX10_costOfWay, 9, (some .long))
abbrev Y_X10_costOfOne : xY := (yX10_costOfOne, cX10_costOfOne, 9, (some .long))
abbrev Y_X10_costOfRow : xY := (yX10_costOfRow, cX10_costOfRow, 11, (some .long))
abbrev Y_X10_costOfBoth : xY := (yX10_costOfBoth, cX10_costOfBoth, 16, (some .long))
abbrev Y_X10_drawn : xY := (yX10_drawn, cX10_drawn, 1, (some .int))
abbrev Y_X10_setDrawn : xY := (yX10_setDrawn, cX10_setDrawn, 2, none)
abbrev Y_X10_drawNext : xY := (yX10_drawNext, cX10_drawNext, 1, (some .int))
abbrev Y_X10_drawComings : xY := (yX10_drawComings, cX10_drawComings, 6, (some .int))
abbrev Y_X10_drawEnd : xY := (yX10_drawEnd, cX10_drawEnd, 5, (some .int))
abbrev Y_X11_init : xY := (yX11_init, cX11_init, 1, none)
abbrev Y_X11_now : xY := (yX11_now, cX11_now, 2, (some .boolean))
abbrev Y_X11_worth : xY := (yX11_worth, cX11_worth, 4, (some .boolean))
abbrev Y_X11_meeting : xY := (yX11_meeting, cX11_meeting, 4, (some .int))
abbrev Y_X11_came : xY := (yX11_came, cX11_came, 5, (some .boolean))
abbrev Y_X11_feed : xY := (yX11_feed, cX11_feed, 6, (some .int))
abbrev Y_X11_law : xY := (yX11_law, cX11_law, 3, (some .int))
abbrev Y_X11_begins : xY := (yX11_begins, cX11_begins, 3, (some .int))
abbrev Y_X11_keeps : xY := (yX11_keeps, cX11_keeps, 5, (some .int))
abbrev Y_X11_kept : xY := (yX11_kept, cX11_kept, 6, (some .int))
abbrev Y_X11_owes : xY := (yX11_owes, cX11_owes, 6, (some .int))
abbrev Y_X11_chain : xY := (yX11_chain, cX11_chain, 5, (some .int))
abbrev Y_X11_settle : xY := (yX11_settle, cX11_settle, 6, (some .int))
abbrev Y_X11_noteIs : xY := (yX11_noteIs, cX11_noteIs, 3, (some .int))
abbrev Y_X11_hand : xY := (yX11_hand, cX11_hand, 3, (some .boolean))
abbrev Y_X11_cut : xY := (yX11_cut, cX11_cut, 3, (some .int))
abbrev Y_X11_take : xY := (yX11_take, cX11_take, 6, (some .int))
abbrev Y_X11_owed : xY := (yX11_owed, cX11_owed, 3, (some .int))
abbrev Y_X11_called : xY := (yX11_called, cX11_called, 3, (some .long))
abbrev Y_X11_round : xY := (yX11_round, cX11_round, 1, (some .int))
abbrev Y_X11_takings : xY := (yX11_takings, cX11_takings, 1, (some .int))
abbrev Y_X11_end : xY := (yX11_end, cX11_end, 4, (some .int))
abbrev Y_X11_bridge : xY := (yX11_bridge, cX11_bridge, 4, (some .boolean))
abbrev Y_X11_crosses : xY := (yX11_crosses, cX11_crosses, 3, (some .boolean))
abbrev Y_X11_lateIf : xY := (yX11_lateIf, cX11_lateIf, 6, (some .int))
abbrev Y_X11_hang : xY := (yX11_hang, cX11_hang, 4, (some .long))
abbrev Y_X11_cost : xY := (yX11_cost, cX11_cost, 6, (some .long))
abbrev Y_X11_out : xY := (yX11_out, cX11_out, 11, (some .int))
abbrev Y_X11_two : xY := (yX11_two, cX11_two, 9, (some .long))
abbrev Y_X11_outTwo : xY := (yX11_outTwo, cX11_outTwo, 14, (some .int))
abbrev Y_X11_rest : xY := (yX11_rest, cX11_rest, 6, (some .int))
abbrev Y_X11_lost : xY := (yX11_lost, cX11_lost, 1, (some .int))
abbrev Y_X11_seed : xY := (yX11_seed, cX11_seed, 2, (some .boolean))
abbrev Y_X11_draw : xY := (yX11_draw, cX11_draw, 4, (some .int))
abbrev Y_X11_check : xY := (yX11_check, cX11_check, 3, (some .int))
abbrev Y_X11_count : xY := (yX11_count, cX11_count, 3, (some .int))
abbrev Y_X11_isCase : xY := (yX11_isCase, cX11_isCase, 5, (some .boolean))
abbrev Y_X11_inRow : xY := (yX11_inRow, cX11_inRow, 3, (some .boolean))
abbrev Y_X11_minutesOwed : xY := (yX11_minutesOwed, cX11_minutesOwed, 2, (some .int))
abbrev Y_X11_hundredths : xY := (yX11_hundredths, cX11_hundredths, 2, (some .int))
abbrev Y_X11_daysToLapse : xY := (yX11_daysToLapse, cX11_daysToLapse, 2, (some .int))
abbrev Y_X11_followChain : xY := (yX11_followChain, cX11_followChain, 5, (some (.array .int)))
abbrev Y_X11_noteChain : xY := (yX11_noteChain, cX11_noteChain, 8, (some .boolean))
abbrev Y_X11_within : xY := (yX11_within, cX11_within, 3, (some .boolean))
abbrev Y_X11_isPerson : xY := (yX11_isPerson, cX11_isPerson, 1, (some .boolean))
abbrev Y_X11_held : xY := (yX11_held, cX11_held, 3, (some .int))
abbrev Y_X11_whole : xY := (yX11_whole, cX11_whole, 2, (some .int))
abbrev Y_X11_leftOver : xY := (yX11_leftOver, cX11_leftOver, 2, (some .int))
abbrev Y_X11_commonDivisor : xY := (yX11_commonDivisor, cX11_commonDivisor, 6, (some .int))
abbrev Y_X12_init : xY := (yX12_init, cX12_init, 2, none)
abbrev Y_X12_in : xY := (yX12_in, cX12_in, 3, (some .boolean))
abbrev Y_X12_isPerson : xY := (yX12_isPerson, cX12_isPerson, 1, (some .boolean))
abbrev Y_X12_isMeeting : xY := (yX12_isMeeting, cX12_isMeeting, 2, (some .boolean))
abbrev Y_X12_isOf : xY := (yX12_isOf, cX12_isOf, 3, (some .boolean))
abbrev Y_X12_now : xY := (yX12_now, cX12_now, 3, (some .boolean))
abbrev Y_X12_worth : xY := (yX12_worth, cX12_worth, 4, (some .boolean))
abbrev Y_X12_bits : xY := (yX12_bits, cX12_bits, 3, (some .int))
abbrev Y_X12_meeting : xY := (yX12_meeting, cX12_meeting, 5, (some .int))
abbrev Y_X12_came : xY := (yX12_came, cX12_came, 4, (some .boolean))
abbrev Y_X12_allCame : xY := (yX12_allCame, cX12_allCame, 3, (some .boolean))
abbrev Y_X12_beginsAt : xY := (yX12_beginsAt, cX12_beginsAt, 4, (some .int))
abbrev Y_X12_begins : xY := (yX12_begins, cX12_begins, 2, (some .int))
abbrev Y_X12_lateAt : xY := (yX12_lateAt, cX12_lateAt, 3, (some .int))
abbrev Y_X12_keepsAt : xY := (yX12_keepsAt, cX12_keepsAt, 5, (some .int))
abbrev Y_X12_keeps : xY := (yX12_keeps, cX12_keeps, 4, (some .int))
abbrev Y_X12_keeperOf : xY := (yX12_keeperOf, cX12_keeperOf, 4, (some .int))
abbrev Y_X12_isKeeping : xY := (yX12_isKeeping, cX12_isKeeping, 5, (some .boolean))
abbrev Y_X12_keptBy : xY := (yX12_keptBy, cX12_keptBy, 5, (some .int))
abbrev Y_X12_kept : xY := (yX12_kept, cX12_kept, 5, (some .int))
abbrev Y_X12_types : xY := (yX12_types, cX12_types, 3, none)
abbrev Y_X12_feed : xY := (yX12_feed, cX12_feed, 6, (some .int))
abbrev Y_X12_here : xY := (yX12_here, cX12_here, 1, (some .int))
abbrev Y_X12_isDigit : xY := (yX12_isDigit, cX12_isDigit, 1, (some .boolean))
abbrev Y_X12_wrongAt : xY := (yX12_wrongAt, cX12_wrongAt, 3, (some .boolean))
abbrev Y_X12_takes : xY := (yX12_takes, cX12_takes, 2, (some .boolean))
abbrev Y_X12_readsNumber : xY := (yX12_readsNumber, cX12_readsNumber, 2, (some .boolean))
abbrev Y_X12_notes : xY := (yX12_notes, cX12_notes, 3, none)
abbrev Y_X12_opens : xY := (yX12_opens, cX12_opens, 2, (some .boolean))
abbrev Y_X12_top : xY := (yX12_top, cX12_top, 1, (some .int))
abbrev Y_X12_factOf : xY := (yX12_factOf, cX12_factOf, 1, (some .int))
abbrev Y_X12_sumSign : xY := (yX12_sumSign, cX12_sumSign, 1, (some .int))
abbrev Y_X12_closesSums : xY := (yX12_closesSums, cX12_closesSums, 2, none)
abbrev Y_X12_readsFactor : xY := (yX12_readsFactor, cX12_readsFactor, 2, (some .boolean))
abbrev Y_X12_hasOpenSum : xY := (yX12_hasOpenSum, cX12_hasOpenSum, 3, (some .boolean))
abbrev Y_X12_readsSum : xY := (yX12_readsSum, cX12_readsSum, 3, (some .boolean))
abbrev Y_X12_endsPiece : xY := (yX12_endsPiece, cX12_endsPiece, 1, none)
abbrev Y_X12_lands : xY := (yX12_lands, cX12_lands, 3, none)
abbrev Y_X12_jumps : xY := (yX12_jumps, cX12_jumps, 2, none)
abbrev Y_X12_readsCompared : xY := (yX12_readsCompared, cX12_readsCompared, 2, (some .boolean))
abbrev Y_X12_readsCondition : xY := (yX12_readsCondition, cX12_readsCondition, 1, (some .boolean))
abbrev Y_X12_readsClause : xY := (yX12_readsClause, cX12_readsClause, 2, (some .boolean))
abbrev Y_X12_law : xY := (yX12_law, cX12_law, 4, (some .int))
abbrev Y_X12_reckon : xY := (yX12_reckon, cX12_reckon, 3, (some .int))
abbrev Y_X12_comesTo : xY := (yX12_comesTo, cX12_comesTo, 8, (some .int))
abbrev Y_X12_byLaw : xY := (yX12_byLaw, cX12_byLaw, 5, (some .int))
abbrev Y_X12_feels : xY := (yX12_feels, cX12_feels, 6, none)
abbrev Y_X12_owesBy : xY := (yX12_owesBy, cX12_owesBy, 5, (some .int))
abbrev Y_X12_areTwo : xY := (yX12_areTwo, cX12_areTwo, 4, (some .boolean))
abbrev Y_X12_owes : xY := (yX12_owes, cX12_owes, 5, (some .int))
abbrev Y_X12_chains : xY := (yX12_chains, cX12_chains, 10, none)
abbrev Y_X12_chain : xY := (yX12_chain, cX12_chain, 5, (some .int))
abbrev Y_X12_makes : xY := (yX12_makes, cX12_makes, 6, none)
abbrev Y_X12_goesOver : xY := (yX12_goesOver, cX12_goesOver, 8, (some .int))
abbrev Y_X12_settle : xY := (yX12_settle, cX12_settle, 3, (some .int))
abbrev Y_X12_isNote : xY := (yX12_isNote, cX12_isNote, 2, (some .boolean))
abbrev Y_X12_isLiveOn : xY := (yX12_isLiveOn, cX12_isLiveOn, 3, (some .boolean))
abbrev Y_X12_isLive : xY := (yX12_isLive, cX12_isLive, 2, (some .boolean))
abbrev Y_X12_noteIs : xY := (yX12_noteIs, cX12_noteIs, 3, (some .int))
abbrev Y_X12_hand : xY := (yX12_hand, cX12_hand, 3, (some .boolean))
abbrev Y_X12_cut : xY := (yX12_cut, cX12_cut, 3, (some .int))
abbrev Y_X12_take : xY := (yX12_take, cX12_take, 6, (some .int))
abbrev Y_X12_owed : xY := (yX12_owed, cX12_owed, 5, (some .int))
abbrev Y_X12_dearest : xY := (yX12_dearest, cX12_dearest, 5, (some .int))
abbrev Y_X12_called : xY := (yX12_called, cX12_called, 9, (some .long))
abbrev Y_X12_balances : xY := (yX12_balances, cX12_balances, 3, none)
abbrev Y_X12_measures : xY := (yX12_measures, cX12_measures, 5, none)
abbrev Y_X12_stepOn : xY := (yX12_stepOn, cX12_stepOn, 3, (some .int))
abbrev Y_X12_goesTo : xY := (yX12_goesTo, cX12_goesTo, 6, none)
abbrev Y_X12_nearestGetter : xY := (yX12_nearestGetter, cX12_nearestGetter, 3, (some .int))
abbrev Y_X12_round : xY := (yX12_round, cX12_round, 3, (some .int))
abbrev Y_X12_takings : xY := (yX12_takings, cX12_takings, 7, (some .int))
abbrev Y_X12_end : xY := (yX12_end, cX12_end, 4, (some .int))
abbrev Y_X12_bridge : xY := (yX12_bridge, cX12_bridge, 4, (some .boolean))
abbrev Y_X12_isCrossing : xY := (yX12_isCrossing, cX12_isCrossing, 2, (some .boolean))
abbrev Y_X12_crosses : xY := (yX12_crosses, cX12_crosses, 3, (some .boolean))
abbrev Y_X12_endsOf : xY := (yX12_endsOf, cX12_endsOf, 2, (some .int))
abbrev Y_X12_weightAt : xY := (yX12_weightAt, cX12_weightAt, 3, (some .int))
abbrev Y_X12_wayAt : xY := (yX12_wayAt, cX12_wayAt, 4, (some .int))
abbrev Y_X12_weightsOf : xY := (yX12_weightsOf, cX12_weightsOf, 4, (some .int))
abbrev Y_X12_bridgeWeight : xY := (yX12_bridgeWeight, cX12_bridgeWeight, 2, (some .int))
abbrev Y_X12_lateWeight : xY := (yX12_lateWeight, cX12_lateWeight, 6, (some .int))
abbrev Y_X12_gcd : xY := (yX12_gcd, cX12_gcd, 5, (some .int))
abbrev Y_X12_lateIf : xY := (yX12_lateIf, cX12_lateIf, 7, (some .int))
abbrev Y_X12_hangs : xY := (yX12_hangs, cX12_hangs, 9, (some .long))
abbrev Y_X12_hang : xY := (yX12_hang, cX12_hang, 4, (some .long))
abbrev Y_X12_worthAt : xY := (yX12_worthAt, cX12_worthAt, 4, (some .int))
abbrev Y_X12_comingCost : xY := (yX12_comingCost, cX12_comingCost, 6, (some .long))
abbrev Y_X12_costWith : xY := (yX12_costWith, cX12_costWith, 9, (some .long))
abbrev Y_X12_costOf : xY := (yX12_costOf, cX12_costOf, 5, (some .long))
abbrev Y_X12_cost : xY := (yX12_cost, cX12_cost, 5, (some .long))
abbrev Y_X12_out : xY := (yX12_out, cX12_out, 10, (some .int))
abbrev Y_X12_twoWith : xY := (yX12_twoWith, cX12_twoWith, 16, (some .long))
abbrev Y_X12_areInRow : xY := (yX12_areInRow, cX12_areInRow, 6, (some .boolean))
abbrev Y_X12_twoOf : xY := (yX12_twoOf, cX12_twoOf, 7, (some .long))
abbrev Y_X12_two : xY := (yX12_two, cX12_two, 7, (some .long))
abbrev Y_X12_outTwo : xY := (yX12_outTwo, cX12_outTwo, 12, (some .int))
abbrev Y_X12_laysGoers : xY := (yX12_laysGoers, cX12_laysGoers, 3, none)
abbrev Y_X12_dayCost : xY := (yX12_dayCost, cX12_dayCost, 9, (some .long))
abbrev Y_X12_allWith : xY := (yX12_allWith, cX12_allWith, 14, (some .long))
abbrev Y_X12_changes : xY := (yX12_changes, cX12_changes, 11, (some .boolean))
abbrev Y_X12_rest : xY := (yX12_rest, cX12_rest, 7, (some .int))
abbrev Y_X12_lost : xY := (yX12_lost, cX12_lost, 5, (some .int))
abbrev Y_X12_seed : xY := (yX12_seed, cX12_seed, 2, (some .boolean))
abbrev Y_X12_draws : xY := (yX12_draws, cX12_draws, 1, none)
abbrev Y_X12_drawnEnd : xY := (yX12_drawnEnd, cX12_drawnEnd, 4, (some .int))
abbrev Y_X12_draw : xY := (yX12_draw, cX12_draw, 6, (some .int))
abbrev Y_X12_tapeNumber : xY := (yX12_tapeNumber, cX12_tapeNumber, 4, (some .int))
abbrev Y_X12_noteNumber : xY := (yX12_noteNumber, cX12_noteNumber, 3, (some .int))
abbrev Y_X12_check : xY := (yX12_check, cX12_check, 5, (some .int))
abbrev Y_X12_count : xY := (yX12_count, cX12_count, 2, (some .int))
abbrev Y_J6_bitCount_0f7a4 : xY := (yJ6_bitCount_0f7a4, cJ6_bitCount_0f7a4, 1, (some .int))
abbrev Y_J9_max_7cf53 : xY := (yJ9_max_7cf53, cJ9_max_7cf53, 2, (some .int))
abbrev Y_J9_min_7cf53 : xY := (yJ9_min_7cf53, cJ9_min_7cf53, 2, (some .int))
abbrev Y_J7_fill_d0a16 : xY := (yJ7_fill_d0a16, cJ7_fill_d0a16, 5, none)
abbrev Y_J7_fill_53178 : xY := (yJ7_fill_53178, cJ7_fill_53178, 4, none)
def xml : List (MethodName × Nat) := [(yX0_init, 0), (yX0_empty, 0), (yX0_length, 0), (yX0_emit, 1), (yX0_openClause, 1), (yX0_openCondition, 0), (yX0_closeClause, 0), (yX0_amount, 3), (yX0_reckon, 3), (yX0_valueOf, 2), (yX0_not, 1), (yX0_join, 3), (yX0_isFact, 1), (yX1_init, 0), (yX1_current, 0), (yX1_clauses, 0), (yX1_read, 2), (yX1_readClause, 0), (yX1_readChoice, 1), (yX1_readPiece, 1), (yX1_readDenied, 1), (yX1_readSum, 1), (yX1_readFactor, 1), (yX1_opens, 1), (yX1_pass, 1), (yX1_sign, 0), (yX1_stop, 1), (yX1_isOperator, 1), (yX1_isDigit, 1), (yX2_init, 3), (yX2_includes, 1), (yX2_many, 0), (yX2_hour, 0), (yX2_isSettled, 0), (yX2_close, 0), (yX2_tell, 2), (yX2_comingOf, 1), (yX2_start, 0), (yX2_keeper, 0), (yX2_lateness, 1), (yX2_waitFor, 2), (yX2_laterThan, 1), (yX2_waitedByAll, 0), (yX3_init, 1), (yX3_length, 0), (yX3_find, 1), (yX3_add, 3), (yX3_settledOnes, 0), (yX3_waitedAtSettled, 0), (yX3_keeperAt, 1), (yX3_keptBy, 2), (yX3_didKeep, 3), (yX3_gather, 3), (yX3_putFact, 2), (yX3_follow, 4), (yX3_payers, 0), (yX3_payerAt, 1), (yX3_paidAt, 1), (yX4_init, 0), (yX4_length, 0), (yX4_holds, 1), (yX4_add, 5), (yX4_dropFrom, 1), (yX4_owerOf, 1), (yX4_holderOf, 1), (yX4_minutesOf, 1), (yX4_madeOn, 1), (yX4_lapsesOn, 1), (yX4_isLive, 2), (yX4_handTo, 2), (yX4_split, 2), (yX4_lessen, 2), (yX4_sumOf, 3), (yX4_callIn, 4), (yX4_useOn, 2), (yX4_firstWrong, 3), (yX5_init, 0), (yX5_slot, 2), (yX5_add, 3), (yX5_setWorth, 3), (yX5_worthAt, 2), (yX5_givenIn, 2), (yX5_takenIn, 2), (yX5_countTaking, 4), (yX5_emptyHours, 0), (yX6_init, 2), (yX6_aheadOf, 1), (yX6_comeToRest, 2), (yX6_cheapest, 3), (yX6_gatherOthers, 3), (yX6_spreadLasts, 2), (yX6_weightsWithout, 3), (yX6_costOf, 5), (yX7_init, 0), (yX7_load, 2), (yX7_leastLeft, 0), (yX7_measure, 0), (yX7_widen, 1), (yX7_length, 2), (yX7_room, 2), (yX7_leftFrom, 2), (yX7_dueFrom, 2), (yX7_nearestTaker, 0), (yX7_send, 1), (yX7_moveAlong, 2), (yX7_fewestPayments, 0), (yX8_init, 0), (yX8_empty, 0), (yX8_length, 0), (yX8_minuteAt, 1), (yX8_weightAt, 1), (yX8_add, 2), (yX8_above, 1), (yX8_below, 1), (yX9_init, 0), (yX9_length, 0), (yX9_put, 1), (yX9_empty, 0), (yX9_byteAt, 1), (yX9_wordAt, 1), (yX10_init, 1), (yX10_tell, 3), (yX10_toldBy, 1), (yX10_endsOf, 1), (yX10_weightOf, 2), (yX10_weightsOf, 1), (yX10_takes, 3), (yX10_setBridge, 3), (yX10_allOfBridge, 0), (yX10_bridgeWeight, 1), (yX10_isCrossing, 1), (yX10_setCrossing, 2), (yX10_lateWeights, 2), (yX10_lateEnds, 3), (yX10_lateTogether, 3), (yX10_countLate, 3), (yX10_costOfComing, 4), (yX10_costOfWay, 5), (yX10_costOfOne, 4), (yX10_costOfRow, 6), (yX10_costOfBoth, 7), (yX10_drawn, 0), (yX10_setDrawn, 1), (yX10_drawNext, 0), (yX10_drawComings, 2), (yX10_drawEnd, 1), (yX11_init, 0), (yX11_now, 1), (yX11_worth, 3), (yX11_meeting, 3), (yX11_came, 3), (yX11_feed, 5), (yX11_law, 1), (yX11_begins, 1), (yX11_keeps, 3), (yX11_kept, 3), (yX11_owes, 4), (yX11_chain, 4), (yX11_settle, 1), (yX11_noteIs, 2), (yX11_hand, 2), (yX11_cut, 2), (yX11_take, 3), (yX11_owed, 2), (yX11_called, 2), (yX11_round, 0), (yX11_takings, 0), (yX11_end, 3), (yX11_bridge, 3), (yX11_crosses, 2), (yX11_lateIf, 3), (yX11_hang, 3), (yX11_cost, 4), (yX11_out, 3), (yX11_two, 6), (yX11_outTwo, 5), (yX11_rest, 3), (yX11_lost, 0), (yX11_seed, 1), (yX11_draw, 2), (yX11_check, 1), (yX11_count, 1), (yX11_isCase, 3), (yX11_inRow, 3), (yX11_minutesOwed, 1), (yX11_hundredths, 1), (yX11_daysToLapse, 1), (yX11_followChain, 3), (yX11_noteChain, 2), (yX11_within, 3), (yX11_isPerson, 1), (yX11_held, 3), (yX11_whole, 2), (yX11_leftOver, 2), (yX11_commonDivisor, 2), (yX12_init, 0), (yX12_in, 3), (yX12_isPerson, 1), (yX12_isMeeting, 1), (yX12_isOf, 2), (yX12_now, 1), (yX12_worth, 3), (yX12_bits, 1), (yX12_meeting, 3), (yX12_came, 3), (yX12_allCame, 1), (yX12_beginsAt, 1), (yX12_begins, 1), (yX12_lateAt, 2), (yX12_keepsAt, 3), (yX12_keeps, 3), (yX12_keeperOf, 1), (yX12_isKeeping, 3), (yX12_keptBy, 2), (yX12_kept, 3), (yX12_types, 1), (yX12_feed, 5), (yX12_here, 0), (yX12_isDigit, 0), (yX12_wrongAt, 2), (yX12_takes, 1), (yX12_readsNumber, 0), (yX12_notes, 2), (yX12_opens, 1), (yX12_top, 0), (yX12_factOf, 1), (yX12_sumSign, 1), (yX12_closesSums, 1), (yX12_readsFactor, 0), (yX12_hasOpenSum, 1), (yX12_readsSum, 0), (yX12_endsPiece, 0), (yX12_lands, 1), (yX12_jumps, 1), (yX12_readsCompared, 0), (yX12_readsCondition, 0), (yX12_readsClause, 0), (yX12_law, 1), (yX12_reckon, 3), (yX12_comesTo, 2), (yX12_byLaw, 2), (yX12_feels, 3), (yX12_owesBy, 4), (yX12_areTwo, 3), (yX12_owes, 4), (yX12_chains, 3), (yX12_chain, 4), (yX12_makes, 5), (yX12_goesOver, 2), (yX12_settle, 1), (yX12_isNote, 1), (yX12_isLiveOn, 2), (yX12_isLive, 1), (yX12_noteIs, 2), (yX12_hand, 2), (yX12_cut, 2), (yX12_take, 3), (yX12_owed, 2), (yX12_dearest, 2), (yX12_called, 2), (yX12_balances, 0), (yX12_measures, 0), (yX12_stepOn, 2), (yX12_goesTo, 1), (yX12_nearestGetter, 0), (yX12_round, 0), (yX12_takings, 0), (yX12_end, 3), (yX12_bridge, 3), (yX12_isCrossing, 1), (yX12_crosses, 2), (yX12_endsOf, 1), (yX12_weightAt, 2), (yX12_wayAt, 3), (yX12_weightsOf, 1), (yX12_bridgeWeight, 1), (yX12_lateWeight, 3), (yX12_gcd, 2), (yX12_lateIf, 3), (yX12_hangs, 4), (yX12_hang, 3), (yX12_worthAt, 2), (yX12_comingCost, 4), (yX12_costWith, 5), (yX12_costOf, 4), (yX12_cost, 4), (yX12_out, 3), (yX12_twoWith, 7), (yX12_areInRow, 5), (yX12_twoOf, 6), (yX12_two, 6), (yX12_outTwo, 5), (yX12_laysGoers, 1), (yX12_dayCost, 3), (yX12_allWith, 4), (yX12_changes, 3), (yX12_rest, 3), (yX12_lost, 0), (yX12_seed, 1), (yX12_draws, 0), (yX12_drawnEnd, 1), (yX12_draw, 2), (yX12_tapeNumber, 1), (yX12_noteNumber, 2), (yX12_check, 1), (yX12_count, 1), (yJ6_bitCount_0f7a4, 1), (yJ9_max_7cf53, 2), (yJ9_min_7cf53, 2), (yJ7_fill_d0a16, 2), (yJ7_fill_53178, 2)]
set_option maxRecDepth 100000 in
theorem xmh : xml.all (fun q => decide (q.1.cls ≠ "java/lang/invoke/MethodHandle" ∧ q.1.cls ≠ "java/lang/invoke/VarHandle") && decide ((parseMethodDescriptor q.1.desc).map (fun d => d.parameters.length) = some q.2)) = true := by decide +kernel
theorem xmi (q : MethodName × Nat) (h : q ∈ xml) : (q.1.cls ≠ "java/lang/invoke/MethodHandle" ∧ q.1.cls ≠ "java/lang/invoke/VarHandle") ∧ (parseMethodDescriptor q.1.desc).map (fun d => d.parameters.length) = some q.2 := by
  have h1 := List.all_eq_true.mp xmh q h
  rw [Bool.and_eq_true] at h1
  exact ⟨of_decide_eq_true h1.1, of_decide_eq_true h1.2⟩
theorem pn_RJ6 : plainName RJ6 = true := by decide +kernel
theorem pn_RJ7 : plainName RJ7 = true := by decide +kernel
theorem pn_RX0 : plainName RX0 = true := by decide +kernel
theorem pn_RX1 : plainName RX1 = true := by decide +kernel
theorem pn_RX10 : plainName RX10 = true := by decide +kernel
theorem pn_RX11 : plainName RX11 = true := by decide +kernel
theorem pn_RX12 : plainName RX12 = true := by decide +kernel
theorem pn_RX2 : plainName RX2 = true := by decide +kernel
theorem pn_RX3 : plainName RX3 = true := by decide +kernel
theorem pn_RX4 : plainName RX4 = true := by decide +kernel
theorem pn_RX5 : plainName RX5 = true := by decide +kernel
theorem pn_RX6 : plainName RX6 = true := by decide +kernel
theorem pn_RX7 : plainName RX7 = true := by decide +kernel
theorem pn_RX8 : plainName RX8 = true := by decide +kernel
theorem pn_RX9 : plainName RX9 = true := by decide +kernel
theorem my_X0_init : xMy Y_X0_init 0 := ⟨m_157, m_112, (xmi (yX0_init, 0) (List.mem_of_getElem? (i := 0) rfl)).1, (xmi (yX0_init, 0) (List.mem_of_getElem? (i := 0) rfl)).2⟩
theorem my_X0_empty : xMy Y_X0_empty 0 := ⟨m_543, m_112, (xmi (yX0_empty, 0) (List.mem_of_getElem? (i := 1) rfl)).1, (xmi (yX0_empty, 0) (List.mem_of_getElem? (i := 1) rfl)).2⟩
theorem my_X0_length : xMy Y_X0_length 0 := ⟨m_559, m_112, (xmi (yX0_length, 0) (List.mem_of_getElem? (i := 2) rfl)).1, (xmi (yX0_length, 0) (List.mem_of_getElem? (i := 2) rfl)).2⟩
theorem my_X0_emit : xMy Y_X0_emit 1 := ⟨m_586, m_112, (xmi (yX0_emit, 1) (List.mem_of_getElem? (i := 3) rfl)).1, (xmi (yX0_emit, 1) (List.mem_of_getElem? (i := 3) rfl)).2⟩
theorem my_X0_openClause : xMy Y_X0_openClause 1 := ⟨m_563, m_112, (xmi (yX0_openClause, 1) (List.mem_of_getElem? (i := 4) rfl)).1, (xmi (yX0_openClause, 1) (List.mem_of_getElem? (i := 4) rfl)).2⟩
theorem my_X0_openCondition : xMy Y_X0_openCondition 0 := ⟨m_596, m_112, (xmi (yX0_openCondition, 0) (List.mem_of_getElem? (i := 5) rfl)).1, (xmi (yX0_openCondition, 0) (List.mem_of_getElem? (i := 5) rfl)).2⟩
theorem my_X0_closeClause : xMy Y_X0_closeClause 0 := ⟨m_612, m_112, (xmi (yX0_closeClause, 0) (List.mem_of_getElem? (i := 6) rfl)).1, (xmi (yX0_closeClause, 0) (List.mem_of_getElem? (i := 6) rfl)).2⟩
theorem my_X0_amount : xMy Y_X0_amount 3 := ⟨m_713, m_112, (xmi (yX0_amount, 3) (List.mem_of_getElem? (i := 7) rfl)).1, (xmi (yX0_amount, 3) (List.mem_of_getElem? (i := 7) rfl)).2⟩
theorem my_X0_reckon : xMy Y_X0_reckon 3 := ⟨m_717, m_112, (xmi (yX0_reckon, 3) (List.mem_of_getElem? (i := 8) rfl)).1, (xmi (yX0_reckon, 3) (List.mem_of_getElem? (i := 8) rfl)).2⟩
theorem my_X0_valueOf : xMy Y_X0_valueOf 2 := ⟨m_722, m_112, (xmi (yX0_valueOf, 2) (List.mem_of_getElem? (i := 9) rfl)).1, (xmi (yX0_valueOf, 2) (List.mem_of_getElem? (i := 9) rfl)).2⟩
theorem my_X0_not : xMy Y_X0_not 1 := ⟨m_725, m_112, (xmi (yX0_not, 1) (List.mem_of_getElem? (i := 10) rfl)).1, (xmi (yX0_not, 1) (List.mem_of_getElem? (i := 10) rfl)).2⟩
theorem my_X0_join : xMy Y_X0_join 3 := ⟨m_729, m_112, (xmi (yX0_join, 3) (List.mem_of_getElem? (i := 11) rfl)).1, (xmi (yX0_join, 3) (List.mem_of_getElem? (i := 11) rfl)).2⟩
theorem my_X0_isFact : xMy Y_X0_isFact 1 := ⟨m_589, m_112, (xmi (yX0_isFact, 1) (List.mem_of_getElem? (i := 12) rfl)).1, (xmi (yX0_isFact, 1) (List.mem_of_getElem? (i := 12) rfl)).2⟩
theorem my_X1_init : xMy Y_X1_init 0 := ⟨m_151, m_111, (xmi (yX1_init, 0) (List.mem_of_getElem? (i := 13) rfl)).1, (xmi (yX1_init, 0) (List.mem_of_getElem? (i := 13) rfl)).2⟩
theorem my_X1_current : xMy Y_X1_current 0 := ⟨m_709, m_111, (xmi (yX1_current, 0) (List.mem_of_getElem? (i := 14) rfl)).1, (xmi (yX1_current, 0) (List.mem_of_getElem? (i := 14) rfl)).2⟩
theorem my_X1_clauses : xMy Y_X1_clauses 0 := ⟨m_1227, m_111, (xmi (yX1_clauses, 0) (List.mem_of_getElem? (i := 15) rfl)).1, (xmi (yX1_clauses, 0) (List.mem_of_getElem? (i := 15) rfl)).2⟩
theorem my_X1_read : xMy Y_X1_read 2 := ⟨m_526, m_111, (xmi (yX1_read, 2) (List.mem_of_getElem? (i := 16) rfl)).1, (xmi (yX1_read, 2) (List.mem_of_getElem? (i := 16) rfl)).2⟩
theorem my_X1_readClause : xMy Y_X1_readClause 0 := ⟨m_547, m_111, (xmi (yX1_readClause, 0) (List.mem_of_getElem? (i := 17) rfl)).1, (xmi (yX1_readClause, 0) (List.mem_of_getElem? (i := 17) rfl)).2⟩
theorem my_X1_readChoice : xMy Y_X1_readChoice 1 := ⟨m_600, m_111, (xmi (yX1_readChoice, 1) (List.mem_of_getElem? (i := 18) rfl)).1, (xmi (yX1_readChoice, 1) (List.mem_of_getElem? (i := 18) rfl)).2⟩
theorem my_X1_readPiece : xMy Y_X1_readPiece 1 := ⟨m_604, m_111, (xmi (yX1_readPiece, 1) (List.mem_of_getElem? (i := 19) rfl)).1, (xmi (yX1_readPiece, 1) (List.mem_of_getElem? (i := 19) rfl)).2⟩
theorem my_X1_readDenied : xMy Y_X1_readDenied 1 := ⟨m_608, m_111, (xmi (yX1_readDenied, 1) (List.mem_of_getElem? (i := 20) rfl)).1, (xmi (yX1_readDenied, 1) (List.mem_of_getElem? (i := 20) rfl)).2⟩
theorem my_X1_readSum : xMy Y_X1_readSum 1 := ⟨m_567, m_111, (xmi (yX1_readSum, 1) (List.mem_of_getElem? (i := 21) rfl)).1, (xmi (yX1_readSum, 1) (List.mem_of_getElem? (i := 21) rfl)).2⟩
theorem my_X1_readFactor : xMy Y_X1_readFactor 1 := ⟨m_571, m_111, (xmi (yX1_readFactor, 1) (List.mem_of_getElem? (i := 22) rfl)).1, (xmi (yX1_readFactor, 1) (List.mem_of_getElem? (i := 22) rfl)).2⟩
theorem my_X1_opens : xMy Y_X1_opens 1 := ⟨m_575, m_111, (xmi (yX1_opens, 1) (List.mem_of_getElem? (i := 23) rfl)).1, (xmi (yX1_opens, 1) (List.mem_of_getElem? (i := 23) rfl)).2⟩
theorem my_X1_pass : xMy Y_X1_pass 1 := ⟨m_579, m_111, (xmi (yX1_pass, 1) (List.mem_of_getElem? (i := 24) rfl)).1, (xmi (yX1_pass, 1) (List.mem_of_getElem? (i := 24) rfl)).2⟩
theorem my_X1_sign : xMy Y_X1_sign 0 := ⟨m_551, m_111, (xmi (yX1_sign, 0) (List.mem_of_getElem? (i := 25) rfl)).1, (xmi (yX1_sign, 0) (List.mem_of_getElem? (i := 25) rfl)).2⟩
theorem my_X1_stop : xMy Y_X1_stop 1 := ⟨m_555, m_111, (xmi (yX1_stop, 1) (List.mem_of_getElem? (i := 26) rfl)).1, (xmi (yX1_stop, 1) (List.mem_of_getElem? (i := 26) rfl)).2⟩
theorem my_X1_isOperator : xMy Y_X1_isOperator 1 := ⟨m_592, m_111, (xmi (yX1_isOperator, 1) (List.mem_of_getElem? (i := 27) rfl)).1, (xmi (yX1_isOperator, 1) (List.mem_of_getElem? (i := 27) rfl)).2⟩
theorem my_X1_isDigit : xMy Y_X1_isDigit 1 := ⟨m_582, m_111, (xmi (yX1_isDigit, 1) (List.mem_of_getElem? (i := 28) rfl)).1, (xmi (yX1_isDigit, 1) (List.mem_of_getElem? (i := 28) rfl)).2⟩
theorem my_X2_init : xMy Y_X2_init 3 := ⟨m_462, m_123, (xmi (yX2_init, 3) (List.mem_of_getElem? (i := 29) rfl)).1, (xmi (yX2_init, 3) (List.mem_of_getElem? (i := 29) rfl)).2⟩
theorem my_X2_includes : xMy Y_X2_includes 1 := ⟨m_502, m_123, (xmi (yX2_includes, 1) (List.mem_of_getElem? (i := 30) rfl)).1, (xmi (yX2_includes, 1) (List.mem_of_getElem? (i := 30) rfl)).2⟩
theorem my_X2_many : xMy Y_X2_many 0 := ⟨m_687, m_123, (xmi (yX2_many, 0) (List.mem_of_getElem? (i := 31) rfl)).1, (xmi (yX2_many, 0) (List.mem_of_getElem? (i := 31) rfl)).2⟩
theorem my_X2_hour : xMy Y_X2_hour 0 := ⟨m_697, m_123, (xmi (yX2_hour, 0) (List.mem_of_getElem? (i := 32) rfl)).1, (xmi (yX2_hour, 0) (List.mem_of_getElem? (i := 32) rfl)).2⟩
theorem my_X2_isSettled : xMy Y_X2_isSettled 0 := ⟨m_498, m_123, (xmi (yX2_isSettled, 0) (List.mem_of_getElem? (i := 33) rfl)).1, (xmi (yX2_isSettled, 0) (List.mem_of_getElem? (i := 33) rfl)).2⟩
theorem my_X2_close : xMy Y_X2_close 0 := ⟨m_788, m_123, (xmi (yX2_close, 0) (List.mem_of_getElem? (i := 34) rfl)).1, (xmi (yX2_close, 0) (List.mem_of_getElem? (i := 34) rfl)).2⟩
theorem my_X2_tell : xMy Y_X2_tell 2 := ⟨m_506, m_123, (xmi (yX2_tell, 2) (List.mem_of_getElem? (i := 35) rfl)).1, (xmi (yX2_tell, 2) (List.mem_of_getElem? (i := 35) rfl)).2⟩
theorem my_X2_comingOf : xMy Y_X2_comingOf 1 := ⟨m_634, m_123, (xmi (yX2_comingOf, 1) (List.mem_of_getElem? (i := 36) rfl)).1, (xmi (yX2_comingOf, 1) (List.mem_of_getElem? (i := 36) rfl)).2⟩
theorem my_X2_start : xMy Y_X2_start 0 := ⟨m_624, m_123, (xmi (yX2_start, 0) (List.mem_of_getElem? (i := 37) rfl)).1, (xmi (yX2_start, 0) (List.mem_of_getElem? (i := 37) rfl)).2⟩
theorem my_X2_keeper : xMy Y_X2_keeper 0 := ⟨m_661, m_123, (xmi (yX2_keeper, 0) (List.mem_of_getElem? (i := 38) rfl)).1, (xmi (yX2_keeper, 0) (List.mem_of_getElem? (i := 38) rfl)).2⟩
theorem my_X2_lateness : xMy Y_X2_lateness 1 := ⟨m_652, m_123, (xmi (yX2_lateness, 1) (List.mem_of_getElem? (i := 39) rfl)).1, (xmi (yX2_lateness, 1) (List.mem_of_getElem? (i := 39) rfl)).2⟩
theorem my_X2_waitFor : xMy Y_X2_waitFor 2 := ⟨m_638, m_123, (xmi (yX2_waitFor, 2) (List.mem_of_getElem? (i := 40) rfl)).1, (xmi (yX2_waitFor, 2) (List.mem_of_getElem? (i := 40) rfl)).2⟩
theorem my_X2_laterThan : xMy Y_X2_laterThan 1 := ⟨m_693, m_123, (xmi (yX2_laterThan, 1) (List.mem_of_getElem? (i := 41) rfl)).1, (xmi (yX2_laterThan, 1) (List.mem_of_getElem? (i := 41) rfl)).2⟩
theorem my_X2_waitedByAll : xMy Y_X2_waitedByAll 0 := ⟨m_1172, m_123, (xmi (yX2_waitedByAll, 0) (List.mem_of_getElem? (i := 42) rfl)).1, (xmi (yX2_waitedByAll, 0) (List.mem_of_getElem? (i := 42) rfl)).2⟩
theorem my_X3_init : xMy Y_X3_init 1 := ⟨m_228, m_115, (xmi (yX3_init, 1) (List.mem_of_getElem? (i := 43) rfl)).1, (xmi (yX3_init, 1) (List.mem_of_getElem? (i := 43) rfl)).2⟩
theorem my_X3_length : xMy Y_X3_length 0 := ⟨m_1223, m_115, (xmi (yX3_length, 0) (List.mem_of_getElem? (i := 44) rfl)).1, (xmi (yX3_length, 0) (List.mem_of_getElem? (i := 44) rfl)).2⟩
theorem my_X3_find : xMy Y_X3_find 1 := ⟨m_494, m_115, (xmi (yX3_find, 1) (List.mem_of_getElem? (i := 45) rfl)).1, (xmi (yX3_find, 1) (List.mem_of_getElem? (i := 45) rfl)).2⟩
theorem my_X3_add : xMy Y_X3_add 3 := ⟨m_458, m_115, (xmi (yX3_add, 3) (List.mem_of_getElem? (i := 46) rfl)).1, (xmi (yX3_add, 3) (List.mem_of_getElem? (i := 46) rfl)).2⟩
theorem my_X3_settledOnes : xMy Y_X3_settledOnes 0 := ⟨m_1235, m_115, (xmi (yX3_settledOnes, 0) (List.mem_of_getElem? (i := 47) rfl)).1, (xmi (yX3_settledOnes, 0) (List.mem_of_getElem? (i := 47) rfl)).2⟩
theorem my_X3_waitedAtSettled : xMy Y_X3_waitedAtSettled 0 := ⟨m_1167, m_115, (xmi (yX3_waitedAtSettled, 0) (List.mem_of_getElem? (i := 48) rfl)).1, (xmi (yX3_waitedAtSettled, 0) (List.mem_of_getElem? (i := 48) rfl)).2⟩
theorem my_X3_keeperAt : xMy Y_X3_keeperAt 1 := ⟨m_666, m_115, (xmi (yX3_keeperAt, 1) (List.mem_of_getElem? (i := 49) rfl)).1, (xmi (yX3_keeperAt, 1) (List.mem_of_getElem? (i := 49) rfl)).2⟩
theorem my_X3_keptBy : xMy Y_X3_keptBy 2 := ⟨m_647, m_115, (xmi (yX3_keptBy, 2) (List.mem_of_getElem? (i := 50) rfl)).1, (xmi (yX3_keptBy, 2) (List.mem_of_getElem? (i := 50) rfl)).2⟩
theorem my_X3_didKeep : xMy Y_X3_didKeep 3 := ⟨m_655, m_115, (xmi (yX3_didKeep, 3) (List.mem_of_getElem? (i := 51) rfl)).1, (xmi (yX3_didKeep, 3) (List.mem_of_getElem? (i := 51) rfl)).2⟩
theorem my_X3_gather : xMy Y_X3_gather 3 := ⟨m_678, m_115, (xmi (yX3_gather, 3) (List.mem_of_getElem? (i := 52) rfl)).1, (xmi (yX3_gather, 3) (List.mem_of_getElem? (i := 52) rfl)).2⟩
theorem my_X3_putFact : xMy Y_X3_putFact 2 := ⟨m_683, m_115, (xmi (yX3_putFact, 2) (List.mem_of_getElem? (i := 53) rfl)).1, (xmi (yX3_putFact, 2) (List.mem_of_getElem? (i := 53) rfl)).2⟩
theorem my_X3_follow : xMy Y_X3_follow 4 := ⟨m_750, m_115, (xmi (yX3_follow, 4) (List.mem_of_getElem? (i := 54) rfl)).1, (xmi (yX3_follow, 4) (List.mem_of_getElem? (i := 54) rfl)).2⟩
theorem my_X3_payers : xMy Y_X3_payers 0 := ⟨m_755, m_115, (xmi (yX3_payers, 0) (List.mem_of_getElem? (i := 55) rfl)).1, (xmi (yX3_payers, 0) (List.mem_of_getElem? (i := 55) rfl)).2⟩
theorem my_X3_payerAt : xMy Y_X3_payerAt 1 := ⟨m_759, m_115, (xmi (yX3_payerAt, 1) (List.mem_of_getElem? (i := 56) rfl)).1, (xmi (yX3_payerAt, 1) (List.mem_of_getElem? (i := 56) rfl)).2⟩
theorem my_X3_paidAt : xMy Y_X3_paidAt 1 := ⟨m_763, m_115, (xmi (yX3_paidAt, 1) (List.mem_of_getElem? (i := 57) rfl)).1, (xmi (yX3_paidAt, 1) (List.mem_of_getElem? (i := 57) rfl)).2⟩
theorem my_X4_init : xMy Y_X4_init 0 := ⟨m_258, m_116, (xmi (yX4_init, 0) (List.mem_of_getElem? (i := 58) rfl)).1, (xmi (yX4_init, 0) (List.mem_of_getElem? (i := 58) rfl)).2⟩
theorem my_X4_length : xMy Y_X4_length 0 := ⟨m_771, m_116, (xmi (yX4_length, 0) (List.mem_of_getElem? (i := 59) rfl)).1, (xmi (yX4_length, 0) (List.mem_of_getElem? (i := 59) rfl)).2⟩
theorem my_X4_holds : xMy Y_X4_holds 1 := ⟨m_796, m_116, (xmi (yX4_holds, 1) (List.mem_of_getElem? (i := 60) rfl)).1, (xmi (yX4_holds, 1) (List.mem_of_getElem? (i := 60) rfl)).2⟩
theorem my_X4_add : xMy Y_X4_add 5 := ⟨m_779, m_116, (xmi (yX4_add, 5) (List.mem_of_getElem? (i := 61) rfl)).1, (xmi (yX4_add, 5) (List.mem_of_getElem? (i := 61) rfl)).2⟩
theorem my_X4_dropFrom : xMy Y_X4_dropFrom 1 := ⟨m_783, m_116, (xmi (yX4_dropFrom, 1) (List.mem_of_getElem? (i := 62) rfl)).1, (xmi (yX4_dropFrom, 1) (List.mem_of_getElem? (i := 62) rfl)).2⟩
theorem my_X4_owerOf : xMy Y_X4_owerOf 1 := ⟨m_800, m_116, (xmi (yX4_owerOf, 1) (List.mem_of_getElem? (i := 63) rfl)).1, (xmi (yX4_owerOf, 1) (List.mem_of_getElem? (i := 63) rfl)).2⟩
theorem my_X4_holderOf : xMy Y_X4_holderOf 1 := ⟨m_805, m_116, (xmi (yX4_holderOf, 1) (List.mem_of_getElem? (i := 64) rfl)).1, (xmi (yX4_holderOf, 1) (List.mem_of_getElem? (i := 64) rfl)).2⟩
theorem my_X4_minutesOf : xMy Y_X4_minutesOf 1 := ⟨m_809, m_116, (xmi (yX4_minutesOf, 1) (List.mem_of_getElem? (i := 65) rfl)).1, (xmi (yX4_minutesOf, 1) (List.mem_of_getElem? (i := 65) rfl)).2⟩
theorem my_X4_madeOn : xMy Y_X4_madeOn 1 := ⟨m_813, m_116, (xmi (yX4_madeOn, 1) (List.mem_of_getElem? (i := 66) rfl)).1, (xmi (yX4_madeOn, 1) (List.mem_of_getElem? (i := 66) rfl)).2⟩
theorem my_X4_lapsesOn : xMy Y_X4_lapsesOn 1 := ⟨m_817, m_116, (xmi (yX4_lapsesOn, 1) (List.mem_of_getElem? (i := 67) rfl)).1, (xmi (yX4_lapsesOn, 1) (List.mem_of_getElem? (i := 67) rfl)).2⟩
theorem my_X4_isLive : xMy Y_X4_isLive 2 := ⟨m_821, m_116, (xmi (yX4_isLive, 2) (List.mem_of_getElem? (i := 68) rfl)).1, (xmi (yX4_isLive, 2) (List.mem_of_getElem? (i := 68) rfl)).2⟩
theorem my_X4_handTo : xMy Y_X4_handTo 2 := ⟨m_829, m_116, (xmi (yX4_handTo, 2) (List.mem_of_getElem? (i := 69) rfl)).1, (xmi (yX4_handTo, 2) (List.mem_of_getElem? (i := 69) rfl)).2⟩
theorem my_X4_split : xMy Y_X4_split 2 := ⟨m_837, m_116, (xmi (yX4_split, 2) (List.mem_of_getElem? (i := 70) rfl)).1, (xmi (yX4_split, 2) (List.mem_of_getElem? (i := 70) rfl)).2⟩
theorem my_X4_lessen : xMy Y_X4_lessen 2 := ⟨m_861, m_116, (xmi (yX4_lessen, 2) (List.mem_of_getElem? (i := 71) rfl)).1, (xmi (yX4_lessen, 2) (List.mem_of_getElem? (i := 71) rfl)).2⟩
theorem my_X4_sumOf : xMy Y_X4_sumOf 3 := ⟨m_869, m_116, (xmi (yX4_sumOf, 3) (List.mem_of_getElem? (i := 72) rfl)).1, (xmi (yX4_sumOf, 3) (List.mem_of_getElem? (i := 72) rfl)).2⟩
theorem my_X4_callIn : xMy Y_X4_callIn 4 := ⟨m_879, m_116, (xmi (yX4_callIn, 4) (List.mem_of_getElem? (i := 73) rfl)).1, (xmi (yX4_callIn, 4) (List.mem_of_getElem? (i := 73) rfl)).2⟩
theorem my_X4_useOn : xMy Y_X4_useOn 2 := ⟨m_887, m_116, (xmi (yX4_useOn, 2) (List.mem_of_getElem? (i := 74) rfl)).1, (xmi (yX4_useOn, 2) (List.mem_of_getElem? (i := 74) rfl)).2⟩
theorem my_X4_firstWrong : xMy Y_X4_firstWrong 3 := ⟨m_1210, m_116, (xmi (yX4_firstWrong, 3) (List.mem_of_getElem? (i := 75) rfl)).1, (xmi (yX4_firstWrong, 3) (List.mem_of_getElem? (i := 75) rfl)).2⟩
theorem my_X5_init : xMy Y_X5_init 0 := ⟨m_209, m_113, (xmi (yX5_init, 0) (List.mem_of_getElem? (i := 76) rfl)).1, (xmi (yX5_init, 0) (List.mem_of_getElem? (i := 76) rfl)).2⟩
theorem my_X5_slot : xMy Y_X5_slot 2 := ⟨m_444, m_113, (xmi (yX5_slot, 2) (List.mem_of_getElem? (i := 77) rfl)).1, (xmi (yX5_slot, 2) (List.mem_of_getElem? (i := 77) rfl)).2⟩
theorem my_X5_add : xMy Y_X5_add 3 := ⟨m_857, m_113, (xmi (yX5_add, 3) (List.mem_of_getElem? (i := 78) rfl)).1, (xmi (yX5_add, 3) (List.mem_of_getElem? (i := 78) rfl)).2⟩
theorem my_X5_setWorth : xMy Y_X5_setWorth 3 := ⟨m_441, m_113, (xmi (yX5_setWorth, 3) (List.mem_of_getElem? (i := 79) rfl)).1, (xmi (yX5_setWorth, 3) (List.mem_of_getElem? (i := 79) rfl)).2⟩
theorem my_X5_worthAt : xMy Y_X5_worthAt 2 := ⟨m_701, m_113, (xmi (yX5_worthAt, 2) (List.mem_of_getElem? (i := 80) rfl)).1, (xmi (yX5_worthAt, 2) (List.mem_of_getElem? (i := 80) rfl)).2⟩
theorem my_X5_givenIn : xMy Y_X5_givenIn 2 := ⟨m_846, m_113, (xmi (yX5_givenIn, 2) (List.mem_of_getElem? (i := 81) rfl)).1, (xmi (yX5_givenIn, 2) (List.mem_of_getElem? (i := 81) rfl)).2⟩
theorem my_X5_takenIn : xMy Y_X5_takenIn 2 := ⟨m_850, m_113, (xmi (yX5_takenIn, 2) (List.mem_of_getElem? (i := 82) rfl)).1, (xmi (yX5_takenIn, 2) (List.mem_of_getElem? (i := 82) rfl)).2⟩
theorem my_X5_countTaking : xMy Y_X5_countTaking 4 := ⟨m_854, m_113, (xmi (yX5_countTaking, 4) (List.mem_of_getElem? (i := 83) rfl)).1, (xmi (yX5_countTaking, 4) (List.mem_of_getElem? (i := 83) rfl)).2⟩
theorem my_X5_emptyHours : xMy Y_X5_emptyHours 0 := ⟨m_430, m_113, (xmi (yX5_emptyHours, 0) (List.mem_of_getElem? (i := 84) rfl)).1, (xmi (yX5_emptyHours, 0) (List.mem_of_getElem? (i := 84) rfl)).2⟩
theorem my_X6_init : xMy Y_X6_init 2 := ⟨m_352, m_119, (xmi (yX6_init, 2) (List.mem_of_getElem? (i := 85) rfl)).1, (xmi (yX6_init, 2) (List.mem_of_getElem? (i := 85) rfl)).2⟩
theorem my_X6_aheadOf : xMy Y_X6_aheadOf 1 := ⟨m_1159, m_119, (xmi (yX6_aheadOf, 1) (List.mem_of_getElem? (i := 86) rfl)).1, (xmi (yX6_aheadOf, 1) (List.mem_of_getElem? (i := 86) rfl)).2⟩
theorem my_X6_comeToRest : xMy Y_X6_comeToRest 2 := ⟨m_1096, m_119, (xmi (yX6_comeToRest, 2) (List.mem_of_getElem? (i := 87) rfl)).1, (xmi (yX6_comeToRest, 2) (List.mem_of_getElem? (i := 87) rfl)).2⟩
theorem my_X6_cheapest : xMy Y_X6_cheapest 3 := ⟨m_1102, m_119, (xmi (yX6_cheapest, 3) (List.mem_of_getElem? (i := 88) rfl)).1, (xmi (yX6_cheapest, 3) (List.mem_of_getElem? (i := 88) rfl)).2⟩
theorem my_X6_gatherOthers : xMy Y_X6_gatherOthers 3 := ⟨m_1108, m_119, (xmi (yX6_gatherOthers, 3) (List.mem_of_getElem? (i := 89) rfl)).1, (xmi (yX6_gatherOthers, 3) (List.mem_of_getElem? (i := 89) rfl)).2⟩
theorem my_X6_spreadLasts : xMy Y_X6_spreadLasts 2 := ⟨m_1129, m_119, (xmi (yX6_spreadLasts, 2) (List.mem_of_getElem? (i := 90) rfl)).1, (xmi (yX6_spreadLasts, 2) (List.mem_of_getElem? (i := 90) rfl)).2⟩
theorem my_X6_weightsWithout : xMy Y_X6_weightsWithout 3 := ⟨m_1120, m_119, (xmi (yX6_weightsWithout, 3) (List.mem_of_getElem? (i := 91) rfl)).1, (xmi (yX6_weightsWithout, 3) (List.mem_of_getElem? (i := 91) rfl)).2⟩
theorem my_X6_costOf : xMy Y_X6_costOf 5 := ⟨m_1145, m_119, (xmi (yX6_costOf, 5) (List.mem_of_getElem? (i := 92) rfl)).1, (xmi (yX6_costOf, 5) (List.mem_of_getElem? (i := 92) rfl)).2⟩
theorem my_X7_init : xMy Y_X7_init 0 := ⟨m_286, m_117, (xmi (yX7_init, 0) (List.mem_of_getElem? (i := 93) rfl)).1, (xmi (yX7_init, 0) (List.mem_of_getElem? (i := 93) rfl)).2⟩
theorem my_X7_load : xMy Y_X7_load 2 := ⟨m_895, m_117, (xmi (yX7_load, 2) (List.mem_of_getElem? (i := 94) rfl)).1, (xmi (yX7_load, 2) (List.mem_of_getElem? (i := 94) rfl)).2⟩
theorem my_X7_leastLeft : xMy Y_X7_leastLeft 0 := ⟨m_906, m_117, (xmi (yX7_leastLeft, 0) (List.mem_of_getElem? (i := 95) rfl)).1, (xmi (yX7_leastLeft, 0) (List.mem_of_getElem? (i := 95) rfl)).2⟩
theorem my_X7_measure : xMy Y_X7_measure 0 := ⟨m_911, m_117, (xmi (yX7_measure, 0) (List.mem_of_getElem? (i := 96) rfl)).1, (xmi (yX7_measure, 0) (List.mem_of_getElem? (i := 96) rfl)).2⟩
theorem my_X7_widen : xMy Y_X7_widen 1 := ⟨m_915, m_117, (xmi (yX7_widen, 1) (List.mem_of_getElem? (i := 97) rfl)).1, (xmi (yX7_widen, 1) (List.mem_of_getElem? (i := 97) rfl)).2⟩
theorem my_X7_length : xMy Y_X7_length 2 := ⟨m_931, m_117, (xmi (yX7_length, 2) (List.mem_of_getElem? (i := 98) rfl)).1, (xmi (yX7_length, 2) (List.mem_of_getElem? (i := 98) rfl)).2⟩
theorem my_X7_room : xMy Y_X7_room 2 := ⟨m_919, m_117, (xmi (yX7_room, 2) (List.mem_of_getElem? (i := 99) rfl)).1, (xmi (yX7_room, 2) (List.mem_of_getElem? (i := 99) rfl)).2⟩
theorem my_X7_leftFrom : xMy Y_X7_leftFrom 2 := ⟨m_923, m_117, (xmi (yX7_leftFrom, 2) (List.mem_of_getElem? (i := 100) rfl)).1, (xmi (yX7_leftFrom, 2) (List.mem_of_getElem? (i := 100) rfl)).2⟩
theorem my_X7_dueFrom : xMy Y_X7_dueFrom 2 := ⟨m_927, m_117, (xmi (yX7_dueFrom, 2) (List.mem_of_getElem? (i := 101) rfl)).1, (xmi (yX7_dueFrom, 2) (List.mem_of_getElem? (i := 101) rfl)).2⟩
theorem my_X7_nearestTaker : xMy Y_X7_nearestTaker 0 := ⟨m_935, m_117, (xmi (yX7_nearestTaker, 0) (List.mem_of_getElem? (i := 102) rfl)).1, (xmi (yX7_nearestTaker, 0) (List.mem_of_getElem? (i := 102) rfl)).2⟩
theorem my_X7_send : xMy Y_X7_send 1 := ⟨m_939, m_117, (xmi (yX7_send, 1) (List.mem_of_getElem? (i := 103) rfl)).1, (xmi (yX7_send, 1) (List.mem_of_getElem? (i := 103) rfl)).2⟩
theorem my_X7_moveAlong : xMy Y_X7_moveAlong 2 := ⟨m_944, m_117, (xmi (yX7_moveAlong, 2) (List.mem_of_getElem? (i := 104) rfl)).1, (xmi (yX7_moveAlong, 2) (List.mem_of_getElem? (i := 104) rfl)).2⟩
theorem my_X7_fewestPayments : xMy Y_X7_fewestPayments 0 := ⟨m_952, m_117, (xmi (yX7_fewestPayments, 0) (List.mem_of_getElem? (i := 105) rfl)).1, (xmi (yX7_fewestPayments, 0) (List.mem_of_getElem? (i := 105) rfl)).2⟩
theorem my_X8_init : xMy Y_X8_init 0 := ⟨m_358, m_120, (xmi (yX8_init, 0) (List.mem_of_getElem? (i := 106) rfl)).1, (xmi (yX8_init, 0) (List.mem_of_getElem? (i := 106) rfl)).2⟩
theorem my_X8_empty : xMy Y_X8_empty 0 := ⟨m_1112, m_120, (xmi (yX8_empty, 0) (List.mem_of_getElem? (i := 107) rfl)).1, (xmi (yX8_empty, 0) (List.mem_of_getElem? (i := 107) rfl)).2⟩
theorem my_X8_length : xMy Y_X8_length 0 := ⟨m_1133, m_120, (xmi (yX8_length, 0) (List.mem_of_getElem? (i := 108) rfl)).1, (xmi (yX8_length, 0) (List.mem_of_getElem? (i := 108) rfl)).2⟩
theorem my_X8_minuteAt : xMy Y_X8_minuteAt 1 := ⟨m_1137, m_120, (xmi (yX8_minuteAt, 1) (List.mem_of_getElem? (i := 109) rfl)).1, (xmi (yX8_minuteAt, 1) (List.mem_of_getElem? (i := 109) rfl)).2⟩
theorem my_X8_weightAt : xMy Y_X8_weightAt 1 := ⟨m_1141, m_120, (xmi (yX8_weightAt, 1) (List.mem_of_getElem? (i := 110) rfl)).1, (xmi (yX8_weightAt, 1) (List.mem_of_getElem? (i := 110) rfl)).2⟩
theorem my_X8_add : xMy Y_X8_add 2 := ⟨m_1116, m_120, (xmi (yX8_add, 2) (List.mem_of_getElem? (i := 111) rfl)).1, (xmi (yX8_add, 2) (List.mem_of_getElem? (i := 111) rfl)).2⟩
theorem my_X8_above : xMy Y_X8_above 1 := ⟨m_1151, m_120, (xmi (yX8_above, 1) (List.mem_of_getElem? (i := 112) rfl)).1, (xmi (yX8_above, 1) (List.mem_of_getElem? (i := 112) rfl)).2⟩
theorem my_X8_below : xMy Y_X8_below 1 := ⟨m_1155, m_120, (xmi (yX8_below, 1) (List.mem_of_getElem? (i := 113) rfl)).1, (xmi (yX8_below, 1) (List.mem_of_getElem? (i := 113) rfl)).2⟩
theorem my_X9_init : xMy Y_X9_init 0 := ⟨m_137, m_110, (xmi (yX9_init, 0) (List.mem_of_getElem? (i := 114) rfl)).1, (xmi (yX9_init, 0) (List.mem_of_getElem? (i := 114) rfl)).2⟩
theorem my_X9_length : xMy Y_X9_length 0 := ⟨m_514, m_110, (xmi (yX9_length, 0) (List.mem_of_getElem? (i := 115) rfl)).1, (xmi (yX9_length, 0) (List.mem_of_getElem? (i := 115) rfl)).2⟩
theorem my_X9_put : xMy Y_X9_put 1 := ⟨m_518, m_110, (xmi (yX9_put, 1) (List.mem_of_getElem? (i := 116) rfl)).1, (xmi (yX9_put, 1) (List.mem_of_getElem? (i := 116) rfl)).2⟩
theorem my_X9_empty : xMy Y_X9_empty 0 := ⟨m_616, m_110, (xmi (yX9_empty, 0) (List.mem_of_getElem? (i := 117) rfl)).1, (xmi (yX9_empty, 0) (List.mem_of_getElem? (i := 117) rfl)).2⟩
theorem my_X9_byteAt : xMy Y_X9_byteAt 1 := ⟨m_539, m_110, (xmi (yX9_byteAt, 1) (List.mem_of_getElem? (i := 118) rfl)).1, (xmi (yX9_byteAt, 1) (List.mem_of_getElem? (i := 118) rfl)).2⟩
theorem my_X9_wordAt : xMy Y_X9_wordAt 1 := ⟨m_1214, m_110, (xmi (yX9_wordAt, 1) (List.mem_of_getElem? (i := 119) rfl)).1, (xmi (yX9_wordAt, 1) (List.mem_of_getElem? (i := 119) rfl)).2⟩
theorem my_X10_init : xMy Y_X10_init 1 := ⟨m_311, m_118, (xmi (yX10_init, 1) (List.mem_of_getElem? (i := 120) rfl)).1, (xmi (yX10_init, 1) (List.mem_of_getElem? (i := 120) rfl)).2⟩
theorem my_X10_tell : xMy Y_X10_tell 3 := ⟨m_961, m_118, (xmi (yX10_tell, 3) (List.mem_of_getElem? (i := 121) rfl)).1, (xmi (yX10_tell, 3) (List.mem_of_getElem? (i := 121) rfl)).2⟩
theorem my_X10_toldBy : xMy Y_X10_toldBy 1 := ⟨m_1239, m_118, (xmi (yX10_toldBy, 1) (List.mem_of_getElem? (i := 122) rfl)).1, (xmi (yX10_toldBy, 1) (List.mem_of_getElem? (i := 122) rfl)).2⟩
theorem my_X10_endsOf : xMy Y_X10_endsOf 1 := ⟨m_1002, m_118, (xmi (yX10_endsOf, 1) (List.mem_of_getElem? (i := 123) rfl)).1, (xmi (yX10_endsOf, 1) (List.mem_of_getElem? (i := 123) rfl)).2⟩
theorem my_X10_weightOf : xMy Y_X10_weightOf 2 := ⟨m_1012, m_118, (xmi (yX10_weightOf, 2) (List.mem_of_getElem? (i := 124) rfl)).1, (xmi (yX10_weightOf, 2) (List.mem_of_getElem? (i := 124) rfl)).2⟩
theorem my_X10_weightsOf : xMy Y_X10_weightsOf 1 := ⟨m_1020, m_118, (xmi (yX10_weightsOf, 1) (List.mem_of_getElem? (i := 125) rfl)).1, (xmi (yX10_weightsOf, 1) (List.mem_of_getElem? (i := 125) rfl)).2⟩
theorem my_X10_takes : xMy Y_X10_takes 3 := ⟨m_1007, m_118, (xmi (yX10_takes, 3) (List.mem_of_getElem? (i := 126) rfl)).1, (xmi (yX10_takes, 3) (List.mem_of_getElem? (i := 126) rfl)).2⟩
theorem my_X10_setBridge : xMy Y_X10_setBridge 3 := ⟨m_970, m_118, (xmi (yX10_setBridge, 3) (List.mem_of_getElem? (i := 127) rfl)).1, (xmi (yX10_setBridge, 3) (List.mem_of_getElem? (i := 127) rfl)).2⟩
theorem my_X10_allOfBridge : xMy Y_X10_allOfBridge 0 := ⟨m_1016, m_118, (xmi (yX10_allOfBridge, 0) (List.mem_of_getElem? (i := 128) rfl)).1, (xmi (yX10_allOfBridge, 0) (List.mem_of_getElem? (i := 128) rfl)).2⟩
theorem my_X10_bridgeWeight : xMy Y_X10_bridgeWeight 1 := ⟨m_994, m_118, (xmi (yX10_bridgeWeight, 1) (List.mem_of_getElem? (i := 129) rfl)).1, (xmi (yX10_bridgeWeight, 1) (List.mem_of_getElem? (i := 129) rfl)).2⟩
theorem my_X10_isCrossing : xMy Y_X10_isCrossing 1 := ⟨m_978, m_118, (xmi (yX10_isCrossing, 1) (List.mem_of_getElem? (i := 130) rfl)).1, (xmi (yX10_isCrossing, 1) (List.mem_of_getElem? (i := 130) rfl)).2⟩
theorem my_X10_setCrossing : xMy Y_X10_setCrossing 2 := ⟨m_982, m_118, (xmi (yX10_setCrossing, 2) (List.mem_of_getElem? (i := 131) rfl)).1, (xmi (yX10_setCrossing, 2) (List.mem_of_getElem? (i := 131) rfl)).2⟩
theorem my_X10_lateWeights : xMy Y_X10_lateWeights 2 := ⟨m_990, m_118, (xmi (yX10_lateWeights, 2) (List.mem_of_getElem? (i := 132) rfl)).1, (xmi (yX10_lateWeights, 2) (List.mem_of_getElem? (i := 132) rfl)).2⟩
theorem my_X10_lateEnds : xMy Y_X10_lateEnds 3 := ⟨m_998, m_118, (xmi (yX10_lateEnds, 3) (List.mem_of_getElem? (i := 133) rfl)).1, (xmi (yX10_lateEnds, 3) (List.mem_of_getElem? (i := 133) rfl)).2⟩
theorem my_X10_lateTogether : xMy Y_X10_lateTogether 3 := ⟨m_1037, m_118, (xmi (yX10_lateTogether, 3) (List.mem_of_getElem? (i := 134) rfl)).1, (xmi (yX10_lateTogether, 3) (List.mem_of_getElem? (i := 134) rfl)).2⟩
theorem my_X10_countLate : xMy Y_X10_countLate 3 := ⟨m_1041, m_118, (xmi (yX10_countLate, 3) (List.mem_of_getElem? (i := 135) rfl)).1, (xmi (yX10_countLate, 3) (List.mem_of_getElem? (i := 135) rfl)).2⟩
theorem my_X10_costOfComing : xMy Y_X10_costOfComing 4 := ⟨m_1061, m_118, (xmi (yX10_costOfComing, 4) (List.mem_of_getElem? (i := 136) rfl)).1, (xmi (yX10_costOfComing, 4) (List.mem_of_getElem? (i := 136) rfl)).2⟩
theorem my_X10_costOfWay : xMy Y_X10_costOfWay 5 := ⟨m_1057, m_118, (xmi (yX10_costOfWay, 5) (List.mem_of_getElem? (i := 137) rfl)).1, (xmi (yX10_costOfWay, 5) (List.mem_of_getElem? (i := 137) rfl)).2⟩
theorem my_X10_costOfOne : xMy Y_X10_costOfOne 4 := ⟨m_1053, m_118, (xmi (yX10_costOfOne, 4) (List.mem_of_getElem? (i := 138) rfl)).1, (xmi (yX10_costOfOne, 4) (List.mem_of_getElem? (i := 138) rfl)).2⟩
theorem my_X10_costOfRow : xMy Y_X10_costOfRow 6 := ⟨m_1079, m_118, (xmi (yX10_costOfRow, 6) (List.mem_of_getElem? (i := 139) rfl)).1, (xmi (yX10_costOfRow, 6) (List.mem_of_getElem? (i := 139) rfl)).2⟩
theorem my_X10_costOfBoth : xMy Y_X10_costOfBoth 7 := ⟨m_1083, m_118, (xmi (yX10_costOfBoth, 7) (List.mem_of_getElem? (i := 140) rfl)).1, (xmi (yX10_costOfBoth, 7) (List.mem_of_getElem? (i := 140) rfl)).2⟩
theorem my_X10_drawn : xMy Y_X10_drawn 0 := ⟨m_1231, m_118, (xmi (yX10_drawn, 0) (List.mem_of_getElem? (i := 141) rfl)).1, (xmi (yX10_drawn, 0) (List.mem_of_getElem? (i := 141) rfl)).2⟩
theorem my_X10_setDrawn : xMy Y_X10_setDrawn 1 := ⟨m_1182, m_118, (xmi (yX10_setDrawn, 1) (List.mem_of_getElem? (i := 142) rfl)).1, (xmi (yX10_setDrawn, 1) (List.mem_of_getElem? (i := 142) rfl)).2⟩
theorem my_X10_drawNext : xMy Y_X10_drawNext 0 := ⟨m_1194, m_118, (xmi (yX10_drawNext, 0) (List.mem_of_getElem? (i := 143) rfl)).1, (xmi (yX10_drawNext, 0) (List.mem_of_getElem? (i := 143) rfl)).2⟩
theorem my_X10_drawComings : xMy Y_X10_drawComings 2 := ⟨m_1190, m_118, (xmi (yX10_drawComings, 2) (List.mem_of_getElem? (i := 144) rfl)).1, (xmi (yX10_drawComings, 2) (List.mem_of_getElem? (i := 144) rfl)).2⟩
theorem my_X10_drawEnd : xMy Y_X10_drawEnd 1 := ⟨m_1201, m_118, (xmi (yX10_drawEnd, 1) (List.mem_of_getElem? (i := 145) rfl)).1, (xmi (yX10_drawEnd, 1) (List.mem_of_getElem? (i := 145) rfl)).2⟩
theorem my_X11_init : xMy Y_X11_init 0 := ⟨m_129, m_109, (xmi (yX11_init, 0) (List.mem_of_getElem? (i := 146) rfl)).1, (xmi (yX11_init, 0) (List.mem_of_getElem? (i := 146) rfl)).2⟩
theorem my_X11_now : xMy Y_X11_now 1 := ⟨m_423, m_109, (xmi (yX11_now, 1) (List.mem_of_getElem? (i := 147) rfl)).1, (xmi (yX11_now, 1) (List.mem_of_getElem? (i := 147) rfl)).2⟩
theorem my_X11_worth : xMy Y_X11_worth 3 := ⟨m_434, m_109, (xmi (yX11_worth, 3) (List.mem_of_getElem? (i := 148) rfl)).1, (xmi (yX11_worth, 3) (List.mem_of_getElem? (i := 148) rfl)).2⟩
theorem my_X11_meeting : xMy Y_X11_meeting 3 := ⟨m_448, m_109, (xmi (yX11_meeting, 3) (List.mem_of_getElem? (i := 149) rfl)).1, (xmi (yX11_meeting, 3) (List.mem_of_getElem? (i := 149) rfl)).2⟩
theorem my_X11_came : xMy Y_X11_came 3 := ⟨m_490, m_109, (xmi (yX11_came, 3) (List.mem_of_getElem? (i := 150) rfl)).1, (xmi (yX11_came, 3) (List.mem_of_getElem? (i := 150) rfl)).2⟩
theorem my_X11_feed : xMy Y_X11_feed 5 := ⟨m_510, m_109, (xmi (yX11_feed, 5) (List.mem_of_getElem? (i := 151) rfl)).1, (xmi (yX11_feed, 5) (List.mem_of_getElem? (i := 151) rfl)).2⟩
theorem my_X11_law : xMy Y_X11_law 1 := ⟨m_522, m_109, (xmi (yX11_law, 1) (List.mem_of_getElem? (i := 152) rfl)).1, (xmi (yX11_law, 1) (List.mem_of_getElem? (i := 152) rfl)).2⟩
theorem my_X11_begins : xMy Y_X11_begins 1 := ⟨m_620, m_109, (xmi (yX11_begins, 1) (List.mem_of_getElem? (i := 153) rfl)).1, (xmi (yX11_begins, 1) (List.mem_of_getElem? (i := 153) rfl)).2⟩
theorem my_X11_keeps : xMy Y_X11_keeps 3 := ⟨m_630, m_109, (xmi (yX11_keeps, 3) (List.mem_of_getElem? (i := 154) rfl)).1, (xmi (yX11_keeps, 3) (List.mem_of_getElem? (i := 154) rfl)).2⟩
theorem my_X11_kept : xMy Y_X11_kept 3 := ⟨m_643, m_109, (xmi (yX11_kept, 3) (List.mem_of_getElem? (i := 155) rfl)).1, (xmi (yX11_kept, 3) (List.mem_of_getElem? (i := 155) rfl)).2⟩
theorem my_X11_owes : xMy Y_X11_owes 4 := ⟨m_670, m_109, (xmi (yX11_owes, 4) (List.mem_of_getElem? (i := 156) rfl)).1, (xmi (yX11_owes, 4) (List.mem_of_getElem? (i := 156) rfl)).2⟩
theorem my_X11_chain : xMy Y_X11_chain 4 := ⟨m_742, m_109, (xmi (yX11_chain, 4) (List.mem_of_getElem? (i := 157) rfl)).1, (xmi (yX11_chain, 4) (List.mem_of_getElem? (i := 157) rfl)).2⟩
theorem my_X11_settle : xMy Y_X11_settle 1 := ⟨m_767, m_109, (xmi (yX11_settle, 1) (List.mem_of_getElem? (i := 158) rfl)).1, (xmi (yX11_settle, 1) (List.mem_of_getElem? (i := 158) rfl)).2⟩
theorem my_X11_noteIs : xMy Y_X11_noteIs 2 := ⟨m_792, m_109, (xmi (yX11_noteIs, 2) (List.mem_of_getElem? (i := 159) rfl)).1, (xmi (yX11_noteIs, 2) (List.mem_of_getElem? (i := 159) rfl)).2⟩
theorem my_X11_hand : xMy Y_X11_hand 2 := ⟨m_825, m_109, (xmi (yX11_hand, 2) (List.mem_of_getElem? (i := 160) rfl)).1, (xmi (yX11_hand, 2) (List.mem_of_getElem? (i := 160) rfl)).2⟩
theorem my_X11_cut : xMy Y_X11_cut 2 := ⟨m_833, m_109, (xmi (yX11_cut, 2) (List.mem_of_getElem? (i := 161) rfl)).1, (xmi (yX11_cut, 2) (List.mem_of_getElem? (i := 161) rfl)).2⟩
theorem my_X11_take : xMy Y_X11_take 3 := ⟨m_842, m_109, (xmi (yX11_take, 3) (List.mem_of_getElem? (i := 162) rfl)).1, (xmi (yX11_take, 3) (List.mem_of_getElem? (i := 162) rfl)).2⟩
theorem my_X11_owed : xMy Y_X11_owed 2 := ⟨m_865, m_109, (xmi (yX11_owed, 2) (List.mem_of_getElem? (i := 163) rfl)).1, (xmi (yX11_owed, 2) (List.mem_of_getElem? (i := 163) rfl)).2⟩
theorem my_X11_called : xMy Y_X11_called 2 := ⟨m_874, m_109, (xmi (yX11_called, 2) (List.mem_of_getElem? (i := 164) rfl)).1, (xmi (yX11_called, 2) (List.mem_of_getElem? (i := 164) rfl)).2⟩
theorem my_X11_round : xMy Y_X11_round 0 := ⟨m_891, m_109, (xmi (yX11_round, 0) (List.mem_of_getElem? (i := 165) rfl)).1, (xmi (yX11_round, 0) (List.mem_of_getElem? (i := 165) rfl)).2⟩
theorem my_X11_takings : xMy Y_X11_takings 0 := ⟨m_948, m_109, (xmi (yX11_takings, 0) (List.mem_of_getElem? (i := 166) rfl)).1, (xmi (yX11_takings, 0) (List.mem_of_getElem? (i := 166) rfl)).2⟩
theorem my_X11_end : xMy Y_X11_end 3 := ⟨m_957, m_109, (xmi (yX11_end, 3) (List.mem_of_getElem? (i := 167) rfl)).1, (xmi (yX11_end, 3) (List.mem_of_getElem? (i := 167) rfl)).2⟩
theorem my_X11_bridge : xMy Y_X11_bridge 3 := ⟨m_966, m_109, (xmi (yX11_bridge, 3) (List.mem_of_getElem? (i := 168) rfl)).1, (xmi (yX11_bridge, 3) (List.mem_of_getElem? (i := 168) rfl)).2⟩
theorem my_X11_crosses : xMy Y_X11_crosses 2 := ⟨m_974, m_109, (xmi (yX11_crosses, 2) (List.mem_of_getElem? (i := 169) rfl)).1, (xmi (yX11_crosses, 2) (List.mem_of_getElem? (i := 169) rfl)).2⟩
theorem my_X11_lateIf : xMy Y_X11_lateIf 3 := ⟨m_986, m_109, (xmi (yX11_lateIf, 3) (List.mem_of_getElem? (i := 170) rfl)).1, (xmi (yX11_lateIf, 3) (List.mem_of_getElem? (i := 170) rfl)).2⟩
theorem my_X11_hang : xMy Y_X11_hang 3 := ⟨m_1033, m_109, (xmi (yX11_hang, 3) (List.mem_of_getElem? (i := 171) rfl)).1, (xmi (yX11_hang, 3) (List.mem_of_getElem? (i := 171) rfl)).2⟩
theorem my_X11_cost : xMy Y_X11_cost 4 := ⟨m_1049, m_109, (xmi (yX11_cost, 4) (List.mem_of_getElem? (i := 172) rfl)).1, (xmi (yX11_cost, 4) (List.mem_of_getElem? (i := 172) rfl)).2⟩
theorem my_X11_out : xMy Y_X11_out 3 := ⟨m_1068, m_109, (xmi (yX11_out, 3) (List.mem_of_getElem? (i := 173) rfl)).1, (xmi (yX11_out, 3) (List.mem_of_getElem? (i := 173) rfl)).2⟩
theorem my_X11_two : xMy Y_X11_two 6 := ⟨m_1072, m_109, (xmi (yX11_two, 6) (List.mem_of_getElem? (i := 174) rfl)).1, (xmi (yX11_two, 6) (List.mem_of_getElem? (i := 174) rfl)).2⟩
theorem my_X11_outTwo : xMy Y_X11_outTwo 5 := ⟨m_1087, m_109, (xmi (yX11_outTwo, 5) (List.mem_of_getElem? (i := 175) rfl)).1, (xmi (yX11_outTwo, 5) (List.mem_of_getElem? (i := 175) rfl)).2⟩
theorem my_X11_rest : xMy Y_X11_rest 3 := ⟨m_1091, m_109, (xmi (yX11_rest, 3) (List.mem_of_getElem? (i := 176) rfl)).1, (xmi (yX11_rest, 3) (List.mem_of_getElem? (i := 176) rfl)).2⟩
theorem my_X11_lost : xMy Y_X11_lost 0 := ⟨m_1163, m_109, (xmi (yX11_lost, 0) (List.mem_of_getElem? (i := 177) rfl)).1, (xmi (yX11_lost, 0) (List.mem_of_getElem? (i := 177) rfl)).2⟩
theorem my_X11_seed : xMy Y_X11_seed 1 := ⟨m_1177, m_109, (xmi (yX11_seed, 1) (List.mem_of_getElem? (i := 178) rfl)).1, (xmi (yX11_seed, 1) (List.mem_of_getElem? (i := 178) rfl)).2⟩
theorem my_X11_draw : xMy Y_X11_draw 2 := ⟨m_1186, m_109, (xmi (yX11_draw, 2) (List.mem_of_getElem? (i := 179) rfl)).1, (xmi (yX11_draw, 2) (List.mem_of_getElem? (i := 179) rfl)).2⟩
theorem my_X11_check : xMy Y_X11_check 1 := ⟨m_1206, m_109, (xmi (yX11_check, 1) (List.mem_of_getElem? (i := 180) rfl)).1, (xmi (yX11_check, 1) (List.mem_of_getElem? (i := 180) rfl)).2⟩
theorem my_X11_count : xMy Y_X11_count 1 := ⟨m_1219, m_109, (xmi (yX11_count, 1) (List.mem_of_getElem? (i := 181) rfl)).1, (xmi (yX11_count, 1) (List.mem_of_getElem? (i := 181) rfl)).2⟩
theorem my_X11_isCase : xMy Y_X11_isCase 3 := ⟨m_674, m_109, (xmi (yX11_isCase, 3) (List.mem_of_getElem? (i := 182) rfl)).1, (xmi (yX11_isCase, 3) (List.mem_of_getElem? (i := 182) rfl)).2⟩
theorem my_X11_inRow : xMy Y_X11_inRow 3 := ⟨m_1075, m_109, (xmi (yX11_inRow, 3) (List.mem_of_getElem? (i := 183) rfl)).1, (xmi (yX11_inRow, 3) (List.mem_of_getElem? (i := 183) rfl)).2⟩
theorem my_X11_minutesOwed : xMy Y_X11_minutesOwed 1 := ⟨m_705, m_109, (xmi (yX11_minutesOwed, 1) (List.mem_of_getElem? (i := 184) rfl)).1, (xmi (yX11_minutesOwed, 1) (List.mem_of_getElem? (i := 184) rfl)).2⟩
theorem my_X11_hundredths : xMy Y_X11_hundredths 1 := ⟨m_734, m_109, (xmi (yX11_hundredths, 1) (List.mem_of_getElem? (i := 185) rfl)).1, (xmi (yX11_hundredths, 1) (List.mem_of_getElem? (i := 185) rfl)).2⟩
theorem my_X11_daysToLapse : xMy Y_X11_daysToLapse 1 := ⟨m_738, m_109, (xmi (yX11_daysToLapse, 1) (List.mem_of_getElem? (i := 186) rfl)).1, (xmi (yX11_daysToLapse, 1) (List.mem_of_getElem? (i := 186) rfl)).2⟩
theorem my_X11_followChain : xMy Y_X11_followChain 3 := ⟨m_746, m_109, (xmi (yX11_followChain, 3) (List.mem_of_getElem? (i := 187) rfl)).1, (xmi (yX11_followChain, 3) (List.mem_of_getElem? (i := 187) rfl)).2⟩
theorem my_X11_noteChain : xMy Y_X11_noteChain 2 := ⟨m_775, m_109, (xmi (yX11_noteChain, 2) (List.mem_of_getElem? (i := 188) rfl)).1, (xmi (yX11_noteChain, 2) (List.mem_of_getElem? (i := 188) rfl)).2⟩
theorem my_X11_within : xMy Y_X11_within 3 := ⟨m_426, m_109, (xmi (yX11_within, 3) (List.mem_of_getElem? (i := 189) rfl)).1, (xmi (yX11_within, 3) (List.mem_of_getElem? (i := 189) rfl)).2⟩
theorem my_X11_isPerson : xMy Y_X11_isPerson 1 := ⟨m_437, m_109, (xmi (yX11_isPerson, 1) (List.mem_of_getElem? (i := 190) rfl)).1, (xmi (yX11_isPerson, 1) (List.mem_of_getElem? (i := 190) rfl)).2⟩
theorem my_X11_held : xMy Y_X11_held 3 := ⟨m_529, m_109, (xmi (yX11_held, 3) (List.mem_of_getElem? (i := 191) rfl)).1, (xmi (yX11_held, 3) (List.mem_of_getElem? (i := 191) rfl)).2⟩
theorem my_X11_whole : xMy Y_X11_whole 2 := ⟨m_1029, m_109, (xmi (yX11_whole, 2) (List.mem_of_getElem? (i := 192) rfl)).1, (xmi (yX11_whole, 2) (List.mem_of_getElem? (i := 192) rfl)).2⟩
theorem my_X11_leftOver : xMy Y_X11_leftOver 2 := ⟨m_1026, m_109, (xmi (yX11_leftOver, 2) (List.mem_of_getElem? (i := 193) rfl)).1, (xmi (yX11_leftOver, 2) (List.mem_of_getElem? (i := 193) rfl)).2⟩
theorem my_X11_commonDivisor : xMy Y_X11_commonDivisor 2 := ⟨m_1023, m_109, (xmi (yX11_commonDivisor, 2) (List.mem_of_getElem? (i := 194) rfl)).1, (xmi (yX11_commonDivisor, 2) (List.mem_of_getElem? (i := 194) rfl)).2⟩
theorem my_X12_init : xMy Y_X12_init 0 := ⟨m_1244, m_121, (xmi (yX12_init, 0) (List.mem_of_getElem? (i := 195) rfl)).1, (xmi (yX12_init, 0) (List.mem_of_getElem? (i := 195) rfl)).2⟩
theorem my_X12_in : xMy Y_X12_in 3 := ⟨m_1451, m_121, (xmi (yX12_in, 3) (List.mem_of_getElem? (i := 196) rfl)).1, (xmi (yX12_in, 3) (List.mem_of_getElem? (i := 196) rfl)).2⟩
theorem my_X12_isPerson : xMy Y_X12_isPerson 1 := ⟨m_1458, m_121, (xmi (yX12_isPerson, 1) (List.mem_of_getElem? (i := 197) rfl)).1, (xmi (yX12_isPerson, 1) (List.mem_of_getElem? (i := 197) rfl)).2⟩
theorem my_X12_isMeeting : xMy Y_X12_isMeeting 1 := ⟨m_1477, m_121, (xmi (yX12_isMeeting, 1) (List.mem_of_getElem? (i := 198) rfl)).1, (xmi (yX12_isMeeting, 1) (List.mem_of_getElem? (i := 198) rfl)).2⟩
theorem my_X12_isOf : xMy Y_X12_isOf 2 := ⟨m_1473, m_121, (xmi (yX12_isOf, 2) (List.mem_of_getElem? (i := 199) rfl)).1, (xmi (yX12_isOf, 2) (List.mem_of_getElem? (i := 199) rfl)).2⟩
theorem my_X12_now : xMy Y_X12_now 1 := ⟨m_1448, m_121, (xmi (yX12_now, 1) (List.mem_of_getElem? (i := 200) rfl)).1, (xmi (yX12_now, 1) (List.mem_of_getElem? (i := 200) rfl)).2⟩
theorem my_X12_worth : xMy Y_X12_worth 3 := ⟨m_1455, m_121, (xmi (yX12_worth, 3) (List.mem_of_getElem? (i := 201) rfl)).1, (xmi (yX12_worth, 3) (List.mem_of_getElem? (i := 201) rfl)).2⟩
theorem my_X12_bits : xMy Y_X12_bits 1 := ⟨m_1465, m_121, (xmi (yX12_bits, 1) (List.mem_of_getElem? (i := 202) rfl)).1, (xmi (yX12_bits, 1) (List.mem_of_getElem? (i := 202) rfl)).2⟩
theorem my_X12_meeting : xMy Y_X12_meeting 3 := ⟨m_1462, m_121, (xmi (yX12_meeting, 3) (List.mem_of_getElem? (i := 203) rfl)).1, (xmi (yX12_meeting, 3) (List.mem_of_getElem? (i := 203) rfl)).2⟩
theorem my_X12_came : xMy Y_X12_came 3 := ⟨m_1469, m_121, (xmi (yX12_came, 3) (List.mem_of_getElem? (i := 204) rfl)).1, (xmi (yX12_came, 3) (List.mem_of_getElem? (i := 204) rfl)).2⟩
theorem my_X12_allCame : xMy Y_X12_allCame 1 := ⟨m_1485, m_121, (xmi (yX12_allCame, 1) (List.mem_of_getElem? (i := 205) rfl)).1, (xmi (yX12_allCame, 1) (List.mem_of_getElem? (i := 205) rfl)).2⟩
theorem my_X12_beginsAt : xMy Y_X12_beginsAt 1 := ⟨m_1489, m_121, (xmi (yX12_beginsAt, 1) (List.mem_of_getElem? (i := 206) rfl)).1, (xmi (yX12_beginsAt, 1) (List.mem_of_getElem? (i := 206) rfl)).2⟩
theorem my_X12_begins : xMy Y_X12_begins 1 := ⟨m_1481, m_121, (xmi (yX12_begins, 1) (List.mem_of_getElem? (i := 207) rfl)).1, (xmi (yX12_begins, 1) (List.mem_of_getElem? (i := 207) rfl)).2⟩
theorem my_X12_lateAt : xMy Y_X12_lateAt 2 := ⟨m_1509, m_121, (xmi (yX12_lateAt, 2) (List.mem_of_getElem? (i := 208) rfl)).1, (xmi (yX12_lateAt, 2) (List.mem_of_getElem? (i := 208) rfl)).2⟩
theorem my_X12_keepsAt : xMy Y_X12_keepsAt 3 := ⟨m_1497, m_121, (xmi (yX12_keepsAt, 3) (List.mem_of_getElem? (i := 209) rfl)).1, (xmi (yX12_keepsAt, 3) (List.mem_of_getElem? (i := 209) rfl)).2⟩
theorem my_X12_keeps : xMy Y_X12_keeps 3 := ⟨m_1493, m_121, (xmi (yX12_keeps, 3) (List.mem_of_getElem? (i := 210) rfl)).1, (xmi (yX12_keeps, 3) (List.mem_of_getElem? (i := 210) rfl)).2⟩
theorem my_X12_keeperOf : xMy Y_X12_keeperOf 1 := ⟨m_1517, m_121, (xmi (yX12_keeperOf, 1) (List.mem_of_getElem? (i := 211) rfl)).1, (xmi (yX12_keeperOf, 1) (List.mem_of_getElem? (i := 211) rfl)).2⟩
theorem my_X12_isKeeping : xMy Y_X12_isKeeping 3 := ⟨m_1513, m_121, (xmi (yX12_isKeeping, 3) (List.mem_of_getElem? (i := 212) rfl)).1, (xmi (yX12_isKeeping, 3) (List.mem_of_getElem? (i := 212) rfl)).2⟩
theorem my_X12_keptBy : xMy Y_X12_keptBy 2 := ⟨m_1505, m_121, (xmi (yX12_keptBy, 2) (List.mem_of_getElem? (i := 213) rfl)).1, (xmi (yX12_keptBy, 2) (List.mem_of_getElem? (i := 213) rfl)).2⟩
theorem my_X12_kept : xMy Y_X12_kept 3 := ⟨m_1501, m_121, (xmi (yX12_kept, 3) (List.mem_of_getElem? (i := 214) rfl)).1, (xmi (yX12_kept, 3) (List.mem_of_getElem? (i := 214) rfl)).2⟩
theorem my_X12_types : xMy Y_X12_types 1 := ⟨m_1525, m_121, (xmi (yX12_types, 1) (List.mem_of_getElem? (i := 215) rfl)).1, (xmi (yX12_types, 1) (List.mem_of_getElem? (i := 215) rfl)).2⟩
theorem my_X12_feed : xMy Y_X12_feed 5 := ⟨m_1521, m_121, (xmi (yX12_feed, 5) (List.mem_of_getElem? (i := 216) rfl)).1, (xmi (yX12_feed, 5) (List.mem_of_getElem? (i := 216) rfl)).2⟩
theorem my_X12_here : xMy Y_X12_here 0 := ⟨m_1537, m_121, (xmi (yX12_here, 0) (List.mem_of_getElem? (i := 217) rfl)).1, (xmi (yX12_here, 0) (List.mem_of_getElem? (i := 217) rfl)).2⟩
theorem my_X12_isDigit : xMy Y_X12_isDigit 0 := ⟨m_1558, m_121, (xmi (yX12_isDigit, 0) (List.mem_of_getElem? (i := 218) rfl)).1, (xmi (yX12_isDigit, 0) (List.mem_of_getElem? (i := 218) rfl)).2⟩
theorem my_X12_wrongAt : xMy Y_X12_wrongAt 2 := ⟨m_1541, m_121, (xmi (yX12_wrongAt, 2) (List.mem_of_getElem? (i := 219) rfl)).1, (xmi (yX12_wrongAt, 2) (List.mem_of_getElem? (i := 219) rfl)).2⟩
theorem my_X12_takes : xMy Y_X12_takes 1 := ⟨m_1608, m_121, (xmi (yX12_takes, 1) (List.mem_of_getElem? (i := 220) rfl)).1, (xmi (yX12_takes, 1) (List.mem_of_getElem? (i := 220) rfl)).2⟩
theorem my_X12_readsNumber : xMy Y_X12_readsNumber 0 := ⟨m_1562, m_121, (xmi (yX12_readsNumber, 0) (List.mem_of_getElem? (i := 221) rfl)).1, (xmi (yX12_readsNumber, 0) (List.mem_of_getElem? (i := 221) rfl)).2⟩
theorem my_X12_notes : xMy Y_X12_notes 2 := ⟨m_1566, m_121, (xmi (yX12_notes, 2) (List.mem_of_getElem? (i := 222) rfl)).1, (xmi (yX12_notes, 2) (List.mem_of_getElem? (i := 222) rfl)).2⟩
theorem my_X12_opens : xMy Y_X12_opens 1 := ⟨m_1553, m_121, (xmi (yX12_opens, 1) (List.mem_of_getElem? (i := 223) rfl)).1, (xmi (yX12_opens, 1) (List.mem_of_getElem? (i := 223) rfl)).2⟩
theorem my_X12_top : xMy Y_X12_top 0 := ⟨m_1580, m_121, (xmi (yX12_top, 0) (List.mem_of_getElem? (i := 224) rfl)).1, (xmi (yX12_top, 0) (List.mem_of_getElem? (i := 224) rfl)).2⟩
theorem my_X12_factOf : xMy Y_X12_factOf 1 := ⟨m_1569, m_121, (xmi (yX12_factOf, 1) (List.mem_of_getElem? (i := 225) rfl)).1, (xmi (yX12_factOf, 1) (List.mem_of_getElem? (i := 225) rfl)).2⟩
theorem my_X12_sumSign : xMy Y_X12_sumSign 1 := ⟨m_1572, m_121, (xmi (yX12_sumSign, 1) (List.mem_of_getElem? (i := 226) rfl)).1, (xmi (yX12_sumSign, 1) (List.mem_of_getElem? (i := 226) rfl)).2⟩
theorem my_X12_closesSums : xMy Y_X12_closesSums 1 := ⟨m_1576, m_121, (xmi (yX12_closesSums, 1) (List.mem_of_getElem? (i := 227) rfl)).1, (xmi (yX12_closesSums, 1) (List.mem_of_getElem? (i := 227) rfl)).2⟩
theorem my_X12_readsFactor : xMy Y_X12_readsFactor 0 := ⟨m_1549, m_121, (xmi (yX12_readsFactor, 0) (List.mem_of_getElem? (i := 228) rfl)).1, (xmi (yX12_readsFactor, 0) (List.mem_of_getElem? (i := 228) rfl)).2⟩
theorem my_X12_hasOpenSum : xMy Y_X12_hasOpenSum 1 := ⟨m_1584, m_121, (xmi (yX12_hasOpenSum, 1) (List.mem_of_getElem? (i := 229) rfl)).1, (xmi (yX12_hasOpenSum, 1) (List.mem_of_getElem? (i := 229) rfl)).2⟩
theorem my_X12_readsSum : xMy Y_X12_readsSum 0 := ⟨m_1545, m_121, (xmi (yX12_readsSum, 0) (List.mem_of_getElem? (i := 230) rfl)).1, (xmi (yX12_readsSum, 0) (List.mem_of_getElem? (i := 230) rfl)).2⟩
theorem my_X12_endsPiece : xMy Y_X12_endsPiece 0 := ⟨m_1596, m_121, (xmi (yX12_endsPiece, 0) (List.mem_of_getElem? (i := 231) rfl)).1, (xmi (yX12_endsPiece, 0) (List.mem_of_getElem? (i := 231) rfl)).2⟩
theorem my_X12_lands : xMy Y_X12_lands 1 := ⟨m_1600, m_121, (xmi (yX12_lands, 1) (List.mem_of_getElem? (i := 232) rfl)).1, (xmi (yX12_lands, 1) (List.mem_of_getElem? (i := 232) rfl)).2⟩
theorem my_X12_jumps : xMy Y_X12_jumps 1 := ⟨m_1604, m_121, (xmi (yX12_jumps, 1) (List.mem_of_getElem? (i := 233) rfl)).1, (xmi (yX12_jumps, 1) (List.mem_of_getElem? (i := 233) rfl)).2⟩
theorem my_X12_readsCompared : xMy Y_X12_readsCompared 0 := ⟨m_1592, m_121, (xmi (yX12_readsCompared, 0) (List.mem_of_getElem? (i := 234) rfl)).1, (xmi (yX12_readsCompared, 0) (List.mem_of_getElem? (i := 234) rfl)).2⟩
theorem my_X12_readsCondition : xMy Y_X12_readsCondition 0 := ⟨m_1588, m_121, (xmi (yX12_readsCondition, 0) (List.mem_of_getElem? (i := 235) rfl)).1, (xmi (yX12_readsCondition, 0) (List.mem_of_getElem? (i := 235) rfl)).2⟩
theorem my_X12_readsClause : xMy Y_X12_readsClause 0 := ⟨m_1533, m_121, (xmi (yX12_readsClause, 0) (List.mem_of_getElem? (i := 236) rfl)).1, (xmi (yX12_readsClause, 0) (List.mem_of_getElem? (i := 236) rfl)).2⟩
theorem my_X12_law : xMy Y_X12_law 1 := ⟨m_1529, m_121, (xmi (yX12_law, 1) (List.mem_of_getElem? (i := 237) rfl)).1, (xmi (yX12_law, 1) (List.mem_of_getElem? (i := 237) rfl)).2⟩
theorem my_X12_reckon : xMy Y_X12_reckon 3 := ⟨m_1635, m_121, (xmi (yX12_reckon, 3) (List.mem_of_getElem? (i := 238) rfl)).1, (xmi (yX12_reckon, 3) (List.mem_of_getElem? (i := 238) rfl)).2⟩
theorem my_X12_comesTo : xMy Y_X12_comesTo 2 := ⟨m_1632, m_121, (xmi (yX12_comesTo, 2) (List.mem_of_getElem? (i := 239) rfl)).1, (xmi (yX12_comesTo, 2) (List.mem_of_getElem? (i := 239) rfl)).2⟩
theorem my_X12_byLaw : xMy Y_X12_byLaw 2 := ⟨m_1628, m_121, (xmi (yX12_byLaw, 2) (List.mem_of_getElem? (i := 240) rfl)).1, (xmi (yX12_byLaw, 2) (List.mem_of_getElem? (i := 240) rfl)).2⟩
theorem my_X12_feels : xMy Y_X12_feels 3 := ⟨m_1624, m_121, (xmi (yX12_feels, 3) (List.mem_of_getElem? (i := 241) rfl)).1, (xmi (yX12_feels, 3) (List.mem_of_getElem? (i := 241) rfl)).2⟩
theorem my_X12_owesBy : xMy Y_X12_owesBy 4 := ⟨m_1620, m_121, (xmi (yX12_owesBy, 4) (List.mem_of_getElem? (i := 242) rfl)).1, (xmi (yX12_owesBy, 4) (List.mem_of_getElem? (i := 242) rfl)).2⟩
theorem my_X12_areTwo : xMy Y_X12_areTwo 3 := ⟨m_1616, m_121, (xmi (yX12_areTwo, 3) (List.mem_of_getElem? (i := 243) rfl)).1, (xmi (yX12_areTwo, 3) (List.mem_of_getElem? (i := 243) rfl)).2⟩
theorem my_X12_owes : xMy Y_X12_owes 4 := ⟨m_1612, m_121, (xmi (yX12_owes, 4) (List.mem_of_getElem? (i := 244) rfl)).1, (xmi (yX12_owes, 4) (List.mem_of_getElem? (i := 244) rfl)).2⟩
theorem my_X12_chains : xMy Y_X12_chains 3 := ⟨m_1643, m_121, (xmi (yX12_chains, 3) (List.mem_of_getElem? (i := 245) rfl)).1, (xmi (yX12_chains, 3) (List.mem_of_getElem? (i := 245) rfl)).2⟩
theorem my_X12_chain : xMy Y_X12_chain 4 := ⟨m_1639, m_121, (xmi (yX12_chain, 4) (List.mem_of_getElem? (i := 246) rfl)).1, (xmi (yX12_chain, 4) (List.mem_of_getElem? (i := 246) rfl)).2⟩
theorem my_X12_makes : xMy Y_X12_makes 5 := ⟨m_1655, m_121, (xmi (yX12_makes, 5) (List.mem_of_getElem? (i := 247) rfl)).1, (xmi (yX12_makes, 5) (List.mem_of_getElem? (i := 247) rfl)).2⟩
theorem my_X12_goesOver : xMy Y_X12_goesOver 2 := ⟨m_1651, m_121, (xmi (yX12_goesOver, 2) (List.mem_of_getElem? (i := 248) rfl)).1, (xmi (yX12_goesOver, 2) (List.mem_of_getElem? (i := 248) rfl)).2⟩
theorem my_X12_settle : xMy Y_X12_settle 1 := ⟨m_1647, m_121, (xmi (yX12_settle, 1) (List.mem_of_getElem? (i := 249) rfl)).1, (xmi (yX12_settle, 1) (List.mem_of_getElem? (i := 249) rfl)).2⟩
theorem my_X12_isNote : xMy Y_X12_isNote 1 := ⟨m_1663, m_121, (xmi (yX12_isNote, 1) (List.mem_of_getElem? (i := 250) rfl)).1, (xmi (yX12_isNote, 1) (List.mem_of_getElem? (i := 250) rfl)).2⟩
theorem my_X12_isLiveOn : xMy Y_X12_isLiveOn 2 := ⟨m_1671, m_121, (xmi (yX12_isLiveOn, 2) (List.mem_of_getElem? (i := 251) rfl)).1, (xmi (yX12_isLiveOn, 2) (List.mem_of_getElem? (i := 251) rfl)).2⟩
theorem my_X12_isLive : xMy Y_X12_isLive 1 := ⟨m_1667, m_121, (xmi (yX12_isLive, 1) (List.mem_of_getElem? (i := 252) rfl)).1, (xmi (yX12_isLive, 1) (List.mem_of_getElem? (i := 252) rfl)).2⟩
theorem my_X12_noteIs : xMy Y_X12_noteIs 2 := ⟨m_1659, m_121, (xmi (yX12_noteIs, 2) (List.mem_of_getElem? (i := 253) rfl)).1, (xmi (yX12_noteIs, 2) (List.mem_of_getElem? (i := 253) rfl)).2⟩
theorem my_X12_hand : xMy Y_X12_hand 2 := ⟨m_1675, m_121, (xmi (yX12_hand, 2) (List.mem_of_getElem? (i := 254) rfl)).1, (xmi (yX12_hand, 2) (List.mem_of_getElem? (i := 254) rfl)).2⟩
theorem my_X12_cut : xMy Y_X12_cut 2 := ⟨m_1679, m_121, (xmi (yX12_cut, 2) (List.mem_of_getElem? (i := 255) rfl)).1, (xmi (yX12_cut, 2) (List.mem_of_getElem? (i := 255) rfl)).2⟩
theorem my_X12_take : xMy Y_X12_take 3 := ⟨m_1683, m_121, (xmi (yX12_take, 3) (List.mem_of_getElem? (i := 256) rfl)).1, (xmi (yX12_take, 3) (List.mem_of_getElem? (i := 256) rfl)).2⟩
theorem my_X12_owed : xMy Y_X12_owed 2 := ⟨m_1687, m_121, (xmi (yX12_owed, 2) (List.mem_of_getElem? (i := 257) rfl)).1, (xmi (yX12_owed, 2) (List.mem_of_getElem? (i := 257) rfl)).2⟩
theorem my_X12_dearest : xMy Y_X12_dearest 2 := ⟨m_1696, m_121, (xmi (yX12_dearest, 2) (List.mem_of_getElem? (i := 258) rfl)).1, (xmi (yX12_dearest, 2) (List.mem_of_getElem? (i := 258) rfl)).2⟩
theorem my_X12_called : xMy Y_X12_called 2 := ⟨m_1691, m_121, (xmi (yX12_called, 2) (List.mem_of_getElem? (i := 259) rfl)).1, (xmi (yX12_called, 2) (List.mem_of_getElem? (i := 259) rfl)).2⟩
theorem my_X12_balances : xMy Y_X12_balances 0 := ⟨m_1704, m_121, (xmi (yX12_balances, 0) (List.mem_of_getElem? (i := 260) rfl)).1, (xmi (yX12_balances, 0) (List.mem_of_getElem? (i := 260) rfl)).2⟩
theorem my_X12_measures : xMy Y_X12_measures 0 := ⟨m_1709, m_121, (xmi (yX12_measures, 0) (List.mem_of_getElem? (i := 261) rfl)).1, (xmi (yX12_measures, 0) (List.mem_of_getElem? (i := 261) rfl)).2⟩
theorem my_X12_stepOn : xMy Y_X12_stepOn 2 := ⟨m_1721, m_121, (xmi (yX12_stepOn, 2) (List.mem_of_getElem? (i := 262) rfl)).1, (xmi (yX12_stepOn, 2) (List.mem_of_getElem? (i := 262) rfl)).2⟩
theorem my_X12_goesTo : xMy Y_X12_goesTo 1 := ⟨m_1717, m_121, (xmi (yX12_goesTo, 1) (List.mem_of_getElem? (i := 263) rfl)).1, (xmi (yX12_goesTo, 1) (List.mem_of_getElem? (i := 263) rfl)).2⟩
theorem my_X12_nearestGetter : xMy Y_X12_nearestGetter 0 := ⟨m_1713, m_121, (xmi (yX12_nearestGetter, 0) (List.mem_of_getElem? (i := 264) rfl)).1, (xmi (yX12_nearestGetter, 0) (List.mem_of_getElem? (i := 264) rfl)).2⟩
theorem my_X12_round : xMy Y_X12_round 0 := ⟨m_1700, m_121, (xmi (yX12_round, 0) (List.mem_of_getElem? (i := 265) rfl)).1, (xmi (yX12_round, 0) (List.mem_of_getElem? (i := 265) rfl)).2⟩
theorem my_X12_takings : xMy Y_X12_takings 0 := ⟨m_1725, m_121, (xmi (yX12_takings, 0) (List.mem_of_getElem? (i := 266) rfl)).1, (xmi (yX12_takings, 0) (List.mem_of_getElem? (i := 266) rfl)).2⟩
theorem my_X12_end : xMy Y_X12_end 3 := ⟨m_1729, m_121, (xmi (yX12_end, 3) (List.mem_of_getElem? (i := 267) rfl)).1, (xmi (yX12_end, 3) (List.mem_of_getElem? (i := 267) rfl)).2⟩
theorem my_X12_bridge : xMy Y_X12_bridge 3 := ⟨m_1733, m_121, (xmi (yX12_bridge, 3) (List.mem_of_getElem? (i := 268) rfl)).1, (xmi (yX12_bridge, 3) (List.mem_of_getElem? (i := 268) rfl)).2⟩
theorem my_X12_isCrossing : xMy Y_X12_isCrossing 1 := ⟨m_1741, m_121, (xmi (yX12_isCrossing, 1) (List.mem_of_getElem? (i := 269) rfl)).1, (xmi (yX12_isCrossing, 1) (List.mem_of_getElem? (i := 269) rfl)).2⟩
theorem my_X12_crosses : xMy Y_X12_crosses 2 := ⟨m_1737, m_121, (xmi (yX12_crosses, 2) (List.mem_of_getElem? (i := 270) rfl)).1, (xmi (yX12_crosses, 2) (List.mem_of_getElem? (i := 270) rfl)).2⟩
theorem my_X12_endsOf : xMy Y_X12_endsOf 1 := ⟨m_1757, m_121, (xmi (yX12_endsOf, 1) (List.mem_of_getElem? (i := 271) rfl)).1, (xmi (yX12_endsOf, 1) (List.mem_of_getElem? (i := 271) rfl)).2⟩
theorem my_X12_weightAt : xMy Y_X12_weightAt 2 := ⟨m_1765, m_121, (xmi (yX12_weightAt, 2) (List.mem_of_getElem? (i := 272) rfl)).1, (xmi (yX12_weightAt, 2) (List.mem_of_getElem? (i := 272) rfl)).2⟩
theorem my_X12_wayAt : xMy Y_X12_wayAt 3 := ⟨m_1761, m_121, (xmi (yX12_wayAt, 3) (List.mem_of_getElem? (i := 273) rfl)).1, (xmi (yX12_wayAt, 3) (List.mem_of_getElem? (i := 273) rfl)).2⟩
theorem my_X12_weightsOf : xMy Y_X12_weightsOf 1 := ⟨m_1769, m_121, (xmi (yX12_weightsOf, 1) (List.mem_of_getElem? (i := 274) rfl)).1, (xmi (yX12_weightsOf, 1) (List.mem_of_getElem? (i := 274) rfl)).2⟩
theorem my_X12_bridgeWeight : xMy Y_X12_bridgeWeight 1 := ⟨m_1749, m_121, (xmi (yX12_bridgeWeight, 1) (List.mem_of_getElem? (i := 275) rfl)).1, (xmi (yX12_bridgeWeight, 1) (List.mem_of_getElem? (i := 275) rfl)).2⟩
theorem my_X12_lateWeight : xMy Y_X12_lateWeight 3 := ⟨m_1753, m_121, (xmi (yX12_lateWeight, 3) (List.mem_of_getElem? (i := 276) rfl)).1, (xmi (yX12_lateWeight, 3) (List.mem_of_getElem? (i := 276) rfl)).2⟩
theorem my_X12_gcd : xMy Y_X12_gcd 2 := ⟨m_1772, m_121, (xmi (yX12_gcd, 2) (List.mem_of_getElem? (i := 277) rfl)).1, (xmi (yX12_gcd, 2) (List.mem_of_getElem? (i := 277) rfl)).2⟩
theorem my_X12_lateIf : xMy Y_X12_lateIf 3 := ⟨m_1745, m_121, (xmi (yX12_lateIf, 3) (List.mem_of_getElem? (i := 278) rfl)).1, (xmi (yX12_lateIf, 3) (List.mem_of_getElem? (i := 278) rfl)).2⟩
theorem my_X12_hangs : xMy Y_X12_hangs 4 := ⟨m_1780, m_121, (xmi (yX12_hangs, 4) (List.mem_of_getElem? (i := 279) rfl)).1, (xmi (yX12_hangs, 4) (List.mem_of_getElem? (i := 279) rfl)).2⟩
theorem my_X12_hang : xMy Y_X12_hang 3 := ⟨m_1776, m_121, (xmi (yX12_hang, 3) (List.mem_of_getElem? (i := 280) rfl)).1, (xmi (yX12_hang, 3) (List.mem_of_getElem? (i := 280) rfl)).2⟩
theorem my_X12_worthAt : xMy Y_X12_worthAt 2 := ⟨m_1800, m_121, (xmi (yX12_worthAt, 2) (List.mem_of_getElem? (i := 281) rfl)).1, (xmi (yX12_worthAt, 2) (List.mem_of_getElem? (i := 281) rfl)).2⟩
theorem my_X12_comingCost : xMy Y_X12_comingCost 4 := ⟨m_1796, m_121, (xmi (yX12_comingCost, 4) (List.mem_of_getElem? (i := 282) rfl)).1, (xmi (yX12_comingCost, 4) (List.mem_of_getElem? (i := 282) rfl)).2⟩
theorem my_X12_costWith : xMy Y_X12_costWith 5 := ⟨m_1792, m_121, (xmi (yX12_costWith, 5) (List.mem_of_getElem? (i := 283) rfl)).1, (xmi (yX12_costWith, 5) (List.mem_of_getElem? (i := 283) rfl)).2⟩
theorem my_X12_costOf : xMy Y_X12_costOf 4 := ⟨m_1788, m_121, (xmi (yX12_costOf, 4) (List.mem_of_getElem? (i := 284) rfl)).1, (xmi (yX12_costOf, 4) (List.mem_of_getElem? (i := 284) rfl)).2⟩
theorem my_X12_cost : xMy Y_X12_cost 4 := ⟨m_1784, m_121, (xmi (yX12_cost, 4) (List.mem_of_getElem? (i := 285) rfl)).1, (xmi (yX12_cost, 4) (List.mem_of_getElem? (i := 285) rfl)).2⟩
theorem my_X12_out : xMy Y_X12_out 3 := ⟨m_1804, m_121, (xmi (yX12_out, 3) (List.mem_of_getElem? (i := 286) rfl)).1, (xmi (yX12_out, 3) (List.mem_of_getElem? (i := 286) rfl)).2⟩
theorem my_X12_twoWith : xMy Y_X12_twoWith 7 := ⟨m_1820, m_121, (xmi (yX12_twoWith, 7) (List.mem_of_getElem? (i := 287) rfl)).1, (xmi (yX12_twoWith, 7) (List.mem_of_getElem? (i := 287) rfl)).2⟩
theorem my_X12_areInRow : xMy Y_X12_areInRow 5 := ⟨m_1812, m_121, (xmi (yX12_areInRow, 5) (List.mem_of_getElem? (i := 288) rfl)).1, (xmi (yX12_areInRow, 5) (List.mem_of_getElem? (i := 288) rfl)).2⟩
theorem my_X12_twoOf : xMy Y_X12_twoOf 6 := ⟨m_1816, m_121, (xmi (yX12_twoOf, 6) (List.mem_of_getElem? (i := 289) rfl)).1, (xmi (yX12_twoOf, 6) (List.mem_of_getElem? (i := 289) rfl)).2⟩
theorem my_X12_two : xMy Y_X12_two 6 := ⟨m_1808, m_121, (xmi (yX12_two, 6) (List.mem_of_getElem? (i := 290) rfl)).1, (xmi (yX12_two, 6) (List.mem_of_getElem? (i := 290) rfl)).2⟩
theorem my_X12_outTwo : xMy Y_X12_outTwo 5 := ⟨m_1824, m_121, (xmi (yX12_outTwo, 5) (List.mem_of_getElem? (i := 291) rfl)).1, (xmi (yX12_outTwo, 5) (List.mem_of_getElem? (i := 291) rfl)).2⟩
theorem my_X12_laysGoers : xMy Y_X12_laysGoers 1 := ⟨m_1832, m_121, (xmi (yX12_laysGoers, 1) (List.mem_of_getElem? (i := 292) rfl)).1, (xmi (yX12_laysGoers, 1) (List.mem_of_getElem? (i := 292) rfl)).2⟩
theorem my_X12_dayCost : xMy Y_X12_dayCost 3 := ⟨m_1844, m_121, (xmi (yX12_dayCost, 3) (List.mem_of_getElem? (i := 293) rfl)).1, (xmi (yX12_dayCost, 3) (List.mem_of_getElem? (i := 293) rfl)).2⟩
theorem my_X12_allWith : xMy Y_X12_allWith 4 := ⟨m_1840, m_121, (xmi (yX12_allWith, 4) (List.mem_of_getElem? (i := 294) rfl)).1, (xmi (yX12_allWith, 4) (List.mem_of_getElem? (i := 294) rfl)).2⟩
theorem my_X12_changes : xMy Y_X12_changes 3 := ⟨m_1836, m_121, (xmi (yX12_changes, 3) (List.mem_of_getElem? (i := 295) rfl)).1, (xmi (yX12_changes, 3) (List.mem_of_getElem? (i := 295) rfl)).2⟩
theorem my_X12_rest : xMy Y_X12_rest 3 := ⟨m_1828, m_121, (xmi (yX12_rest, 3) (List.mem_of_getElem? (i := 296) rfl)).1, (xmi (yX12_rest, 3) (List.mem_of_getElem? (i := 296) rfl)).2⟩
theorem my_X12_lost : xMy Y_X12_lost 0 := ⟨m_1848, m_121, (xmi (yX12_lost, 0) (List.mem_of_getElem? (i := 297) rfl)).1, (xmi (yX12_lost, 0) (List.mem_of_getElem? (i := 297) rfl)).2⟩
theorem my_X12_seed : xMy Y_X12_seed 1 := ⟨m_1852, m_121, (xmi (yX12_seed, 1) (List.mem_of_getElem? (i := 298) rfl)).1, (xmi (yX12_seed, 1) (List.mem_of_getElem? (i := 298) rfl)).2⟩
theorem my_X12_draws : xMy Y_X12_draws 0 := ⟨m_1861, m_121, (xmi (yX12_draws, 0) (List.mem_of_getElem? (i := 299) rfl)).1, (xmi (yX12_draws, 0) (List.mem_of_getElem? (i := 299) rfl)).2⟩
theorem my_X12_drawnEnd : xMy Y_X12_drawnEnd 1 := ⟨m_1866, m_121, (xmi (yX12_drawnEnd, 1) (List.mem_of_getElem? (i := 300) rfl)).1, (xmi (yX12_drawnEnd, 1) (List.mem_of_getElem? (i := 300) rfl)).2⟩
theorem my_X12_draw : xMy Y_X12_draw 2 := ⟨m_1857, m_121, (xmi (yX12_draw, 2) (List.mem_of_getElem? (i := 301) rfl)).1, (xmi (yX12_draw, 2) (List.mem_of_getElem? (i := 301) rfl)).2⟩
theorem my_X12_tapeNumber : xMy Y_X12_tapeNumber 1 := ⟨m_1874, m_121, (xmi (yX12_tapeNumber, 1) (List.mem_of_getElem? (i := 302) rfl)).1, (xmi (yX12_tapeNumber, 1) (List.mem_of_getElem? (i := 302) rfl)).2⟩
theorem my_X12_noteNumber : xMy Y_X12_noteNumber 2 := ⟨m_1878, m_121, (xmi (yX12_noteNumber, 2) (List.mem_of_getElem? (i := 303) rfl)).1, (xmi (yX12_noteNumber, 2) (List.mem_of_getElem? (i := 303) rfl)).2⟩
theorem my_X12_check : xMy Y_X12_check 1 := ⟨m_1870, m_121, (xmi (yX12_check, 1) (List.mem_of_getElem? (i := 304) rfl)).1, (xmi (yX12_check, 1) (List.mem_of_getElem? (i := 304) rfl)).2⟩
theorem my_X12_count : xMy Y_X12_count 1 := ⟨m_1882, m_121, (xmi (yX12_count, 1) (List.mem_of_getElem? (i := 305) rfl)).1, (xmi (yX12_count, 1) (List.mem_of_getElem? (i := 305) rfl)).2⟩
theorem my_J6_bitCount_0f7a4 : xMy Y_J6_bitCount_0f7a4 1 := ⟨m_451, m_122, (xmi (yJ6_bitCount_0f7a4, 1) (List.mem_of_getElem? (i := 306) rfl)).1, (xmi (yJ6_bitCount_0f7a4, 1) (List.mem_of_getElem? (i := 306) rfl)).2⟩
theorem my_J9_max_7cf53 : xMy Y_J9_max_7cf53 2 := ⟨m_535, m_124, (xmi (yJ9_max_7cf53, 2) (List.mem_of_getElem? (i := 307) rfl)).1, (xmi (yJ9_max_7cf53, 2) (List.mem_of_getElem? (i := 307) rfl)).2⟩
theorem my_J9_min_7cf53 : xMy Y_J9_min_7cf53 2 := ⟨m_532, m_124, (xmi (yJ9_min_7cf53, 2) (List.mem_of_getElem? (i := 308) rfl)).1, (xmi (yJ9_min_7cf53, 2) (List.mem_of_getElem? (i := 308) rfl)).2⟩
theorem my_J7_fill_d0a16 : xMy Y_J7_fill_d0a16 2 := ⟨m_1044, m_114, (xmi (yJ7_fill_d0a16, 2) (List.mem_of_getElem? (i := 309) rfl)).1, (xmi (yJ7_fill_d0a16, 2) (List.mem_of_getElem? (i := 309) rfl)).2⟩
theorem my_J7_fill_53178 : xMy Y_J7_fill_53178 2 := ⟨m_213, m_114, (xmi (yJ7_fill_53178, 2) (List.mem_of_getElem? (i := 310) rfl)).1, (xmi (yJ7_fill_53178, 2) (List.mem_of_getElem? (i := 310) rfl)).2⟩
