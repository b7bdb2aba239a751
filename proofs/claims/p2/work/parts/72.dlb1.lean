set_option maxRecDepth 20000 in
theorem ggL_law_X8_init : GoodIn wsL_law wsX8_init := goodIn_r _ [11, 12, 13, 14, 15, 16, 17, 18, 19, 20, 21, 22, 23, 24, 25, 26, 27, 28, 29, 30, 31, 32, 33, 34, 35, 36, 37, 38, 39, 40, 41, 42, 43, 44, 45, 46, 47, 48, 49, 50, 51, 52, 53, 54, 55, 56, 57, 58, 59, 60, 1368, 1369, 1370, 1371, 1372, 1373, 1374, 1375, 1376, 1377, 1378, 1394, 1395, 1396, 1397, 1398, 1399, 1400, 1401, 1402, 1403, 1404, 1405] (by decide +kernel) (by decide +kernel)
set_option maxRecDepth 20000 in
theorem gL_law_X8_init : GoodIn wsL_law (wsX8_init) := ggL_law_X8_init
set_option maxRecDepth 20000 in
theorem ggL_law_X14_init : GoodIn wsL_law wsX14_init := goodIn_r _ [63, 64, 13, 14, 65, 66, 67, 68, 18, 19, 69, 70, 71, 72, 73, 74, 75, 76, 77, 35, 36, 37, 38, 39, 40, 41, 42, 43, 44, 45, 46, 47, 48, 78, 79, 80, 81, 82, 83, 1379, 1380, 1381, 1382, 1383, 1384, 1385, 1386, 1387, 1388, 1389, 1390, 1391, 1394, 1395, 1396, 1406, 1407, 1408, 1409, 1410, 1411] (by decide +kernel) (by decide +kernel)
set_option maxRecDepth 20000 in
theorem gL_law_X14_init : GoodIn wsL_law (wsX14_init) := ggL_law_X14_init
set_option maxRecDepth 20000 in
theorem ggL_law_X9_init : GoodIn wsL_law wsX9_init := goodIn_r _ [85, 86, 13, 14] (by decide +kernel) (by decide +kernel)
set_option maxRecDepth 20000 in
theorem gL_law_X9_init_n112 : GoodIn wsL_law (wsX9_init) := ggL_law_X9_init
set_option maxRecDepth 20000 in
theorem ggL_law_L_land : GoodIn wsL_law wsL_land := goodIn_ca (goodIn_ca (goodIn_r _ [90, 91, 92, 93, 94, 2, 95, 96, 97, 98, 99, 100, 101, 102, 103, 16, 104, 105, 106, 107, 108, 1392, 1393, 1399, 1400, 1401, 1402, 1403, 1404, 1405, 1368, 1369, 1370, 1371, 1372, 1373, 1374, 1375, 1376, 1377, 1378] (by decide +kernel) (by decide +kernel)) (goodIn_sub (fun _ h => List.mem_append_left _ (List.mem_append_left _ (List.mem_append_right _ h))) (by decide +kernel))) (goodIn_sub (fun _ h => List.mem_append_left _ (List.mem_append_right _ h)) (by decide +kernel))
set_option maxRecDepth 20000 in
theorem gL_law_L_land : GoodIn wsL_law (va_wsS RL 113 yL_land wsL_land) := goodIn_app (goodIn_of _ (by decide +kernel)) ggL_law_L_land
set_option maxRecDepth 20000 in
theorem ggL_law_X14_land : GoodIn wsL_law wsX14_land := goodIn_r _ [112, 113, 67, 114, 115, 116, 5, 117, 118, 119, 120, 121, 122, 123, 124, 1379, 1380, 1381, 1382, 1383, 1384, 1385, 1386, 1387, 1388, 1389, 1390, 1391, 1406, 1407, 1408, 1409, 1410, 1411] (by decide +kernel) (by decide +kernel)
set_option maxRecDepth 20000 in
theorem gL_law_X14_land : GoodIn wsL_law (wsV RL 118 RX14 yX14_land wsX14_land) := goodIn_app (goodIn_of _ (by decide +kernel)) ggL_law_X14_land
set_option maxRecDepth 20000 in
theorem ggL_law_X14_thrown : GoodIn wsL_law wsX14_thrown := goodIn_r _ [128, 113, 1379, 1380, 1381, 1382, 1383, 1384, 1385, 1386, 1387, 1388, 1389, 1390, 1391] (by decide +kernel) (by decide +kernel)
set_option maxRecDepth 20000 in
theorem gL_law_X14_thrown : GoodIn wsL_law (wsV RL 119 RX14 yX14_thrown wsX14_thrown) := goodIn_app (goodIn_of _ (by decide +kernel)) ggL_law_X14_thrown
set_option maxRecDepth 20000 in
theorem ggL_law_L_trade : GoodIn wsL_law wsL_trade := goodIn_ca (goodIn_ca (goodIn_ca (goodIn_r _ [131, 91, 132, 133, 134, 2, 135, 107, 108, 136, 137, 138, 98, 99, 100, 101, 102, 103, 16, 1392, 1393, 1399, 1400, 1401, 1402, 1403, 1404, 1405, 1368, 1369, 1370, 1371, 1372, 1373, 1374, 1375, 1376, 1377, 1378] (by decide +kernel) (by decide +kernel)) (goodIn_sub (fun _ h => List.mem_append_left _ (List.mem_append_right _ h)) (by decide +kernel))) (goodIn_sub (fun _ h => List.mem_append_right _ h) (by decide +kernel))) (goodIn_sub (fun _ h => List.mem_append_left _ (List.mem_append_left _ (List.mem_append_right _ h))) (by decide +kernel))
set_option maxRecDepth 20000 in
theorem gL_law_L_trade : GoodIn wsL_law (va_wsS RL 123 yL_trade wsL_trade) := goodIn_app (goodIn_of _ (by decide +kernel)) ggL_law_L_trade
set_option maxRecDepth 20000 in
theorem ggL_law_X14_trade : GoodIn wsL_law wsX14_trade := goodIn_r _ [142, 113, 67, 114, 115, 116, 5, 117, 118, 119, 120, 121, 122, 123, 124, 1379, 1380, 1381, 1382, 1383, 1384, 1385, 1386, 1387, 1388, 1389, 1390, 1391, 1406, 1407, 1408, 1409, 1410, 1411] (by decide +kernel) (by decide +kernel)
set_option maxRecDepth 20000 in
theorem gL_law_X14_trade : GoodIn wsL_law (wsV RL 125 RX14 yX14_trade wsX14_trade) := goodIn_app (goodIn_of _ (by decide +kernel)) ggL_law_X14_trade
set_option maxRecDepth 20000 in
theorem ggL_law_L_gate : GoodIn wsL_law wsL_gate := goodIn_ca (goodIn_ca (goodIn_ca (goodIn_r _ [145, 91, 146, 147, 148, 2, 149, 107, 108, 136, 137, 20, 150, 151, 152, 153, 98, 99, 100, 101, 102, 103, 16, 104, 105, 106, 154, 155, 156, 19, 157, 158, 159, 160, 161, 162, 13, 14, 163, 18, 164, 165, 166, 167, 168, 169, 170, 171, 172, 173, 174, 175, 176, 35, 36, 37, 38, 39, 40, 41, 42, 43, 44, 45, 46, 47, 48, 177, 178, 179, 180, 181, 182, 183, 184, 185, 186, 187, 188, 189, 190, 191, 192, 193, 194, 195, 196, 197, 198, 199, 200, 201, 202, 203, 204, 205, 206, 207, 208, 209, 210, 211, 212, 213, 214, 215, 216, 217, 218, 219, 220, 221, 222, 223, 224, 225, 226, 227, 228, 229, 230, 231, 1392, 1393, 1368, 1369, 1370, 1371, 1372, 1373, 1374, 1375, 1376, 1377, 1378, 1412, 1413, 1414, 1415, 1416, 1417, 1418, 1419, 1420, 1421, 1394, 1395, 1396, 1422, 1423] (by decide +kernel) (by decide +kernel)) (goodIn_sub (fun _ h => List.mem_append_left _ (List.mem_append_right _ h)) (by decide +kernel))) (goodIn_sub (fun _ h => List.mem_append_right _ h) (by decide +kernel))) (goodIn_sub (fun _ h => List.mem_append_left _ (List.mem_append_left _ (List.mem_append_right _ h))) (by decide +kernel))
set_option maxRecDepth 20000 in
theorem gL_law_L_gate : GoodIn wsL_law (va_wsS RL 126 yL_gate wsL_gate) := goodIn_app (goodIn_of _ (by decide +kernel)) ggL_law_L_gate
set_option maxRecDepth 20000 in
theorem ggL_law_X14_gate : GoodIn wsL_law wsX14_gate := goodIn_r _ [235, 113, 69, 236, 237, 238, 114, 115, 116, 5, 117, 118, 119, 120, 121, 122, 123, 124, 239, 155, 156, 19, 157, 158, 240, 241, 242, 13, 14, 243, 244, 18, 245, 73, 246, 247, 35, 36, 37, 38, 39, 40, 41, 42, 43, 44, 45, 46, 47, 48, 248, 181, 182, 183, 184, 185, 186, 187, 188, 189, 190, 191, 192, 193, 194, 195, 196, 197, 198, 199, 200, 201, 202, 203, 204, 205, 206, 207, 208, 209, 210, 211, 212, 213, 214, 215, 216, 217, 218, 219, 220, 221, 222, 223, 224, 225, 226, 227, 228, 229, 230, 231, 1379, 1380, 1381, 1382, 1383, 1384, 1385, 1386, 1387, 1388, 1389, 1390, 1391, 1424, 1425, 1426, 1427, 1428, 1429, 1430, 1431, 1394, 1395, 1396] (by decide +kernel) (by decide +kernel)
set_option maxRecDepth 20000 in
theorem gL_law_X14_gate : GoodIn wsL_law (wsV RL 129 RX14 yX14_gate wsX14_gate) := goodIn_app (goodIn_of _ (by decide +kernel)) ggL_law_X14_gate
set_option maxRecDepth 20000 in
theorem ggL_law_L_odds : GoodIn wsL_law wsL_odds := goodIn_ca (goodIn_ca (goodIn_r _ [251, 91, 252, 253, 254, 2, 255, 256, 257, 258, 259, 260, 102, 103, 20, 261, 154, 155, 156, 19, 157, 158, 262, 263, 264, 265, 266, 267, 268, 269, 270, 271, 272, 273, 274, 275, 276, 277, 38, 104, 105, 106, 107, 108, 1392, 1393, 1412, 1413, 1414, 1415, 1416, 1417, 1418, 1419, 1420, 1421, 1368, 1369, 1370, 1371, 1372, 1373, 1374, 1375, 1376, 1377, 1378, 1394, 1395, 1396] (by decide +kernel) (by decide +kernel)) (goodIn_sub (fun _ h => List.mem_append_left _ (List.mem_append_left _ (List.mem_append_right _ h))) (by decide +kernel))) (goodIn_sub (fun _ h => List.mem_append_left _ (List.mem_append_right _ h)) (by decide +kernel))
set_option maxRecDepth 20000 in
theorem gL_law_L_odds : GoodIn wsL_law (va_wsS RL 130 yL_odds wsL_odds) := goodIn_app (goodIn_of _ (by decide +kernel)) ggL_law_L_odds
set_option maxRecDepth 20000 in
theorem ggL_law_X14_odds : GoodIn wsL_law wsX14_odds := goodIn_r _ [281, 113, 69, 282, 283, 284, 285, 5, 286, 239, 155, 156, 19, 157, 158, 118, 119, 120, 121, 122, 123, 124, 287, 263, 264, 265, 266, 267, 268, 269, 270, 271, 272, 273, 274, 275, 276, 277, 38, 1379, 1380, 1381, 1382, 1383, 1384, 1385, 1386, 1387, 1388, 1389, 1390, 1391, 1424, 1425, 1426, 1427, 1428, 1429, 1430, 1431, 1394, 1395, 1396] (by decide +kernel) (by decide +kernel)
set_option maxRecDepth 20000 in
theorem gL_law_X14_odds : GoodIn wsL_law (wsV RL 133 RX14 yX14_odds wsX14_odds) := goodIn_app (goodIn_of _ (by decide +kernel)) ggL_law_X14_odds
set_option maxRecDepth 20000 in
theorem ggL_law_L_relieve : GoodIn wsL_law wsL_relieve := goodIn_ca (goodIn_r _ [290, 91, 291, 292, 293, 2, 294, 295, 257, 258, 259, 260, 102, 103, 20, 261, 154, 155, 156, 19, 157, 158, 262, 263, 264, 265, 266, 267, 268, 269, 270, 271, 272, 273, 274, 275, 276, 277, 38, 1392, 1393, 1412, 1413, 1414, 1415, 1416, 1417, 1418, 1419, 1420, 1421, 1368, 1369, 1370, 1371, 1372, 1373, 1374, 1375, 1376, 1377, 1378, 1394, 1395, 1396] (by decide +kernel) (by decide +kernel)) (goodIn_sub (fun _ h => List.mem_append_left _ (List.mem_append_left _ (List.mem_append_right _ h))) (by decide +kernel))
set_option maxRecDepth 20000 in
theorem gL_law_L_relieve : GoodIn wsL_law (va_wsS RL 134 yL_relieve wsL_relieve) := goodIn_app (goodIn_of _ (by decide +kernel)) ggL_law_L_relieve
set_option maxRecDepth 20000 in
theorem ggL_law_X14_relieve : GoodIn wsL_law wsX14_relieve := goodIn_r _ [299, 113, 69, 282, 283, 284, 285, 5, 286, 239, 155, 156, 19, 157, 158, 118, 119, 120, 121, 122, 123, 124, 287, 263, 264, 265, 266, 267, 268, 269, 270, 271, 272, 273, 274, 275, 276, 277, 38, 1379, 1380, 1381, 1382, 1383, 1384, 1385, 1386, 1387, 1388, 1389, 1390, 1391, 1424, 1425, 1426, 1427, 1428, 1429, 1430, 1431, 1394, 1395, 1396] (by decide +kernel) (by decide +kernel)
set_option maxRecDepth 20000 in
theorem gL_law_X14_relieve : GoodIn wsL_law (wsV RL 137 RX14 yX14_relieve wsX14_relieve) := goodIn_app (goodIn_of _ (by decide +kernel)) ggL_law_X14_relieve
set_option maxRecDepth 20000 in
theorem ggL_law_L_sleeper : GoodIn wsL_law wsL_sleeper := goodIn_ca (goodIn_ca (goodIn_ca (goodIn_r _ [302, 91, 303, 304, 305, 2, 306, 136, 137, 21, 307, 308, 309, 310, 98, 99, 100, 101, 102, 103, 16, 104, 105, 106, 107, 108, 154, 155, 156, 19, 157, 158, 311, 312, 313, 314, 13, 14, 315, 316, 317, 318, 319, 180, 181, 182, 183, 184, 185, 38, 186, 187, 188, 189, 190, 191, 192, 193, 194, 195, 196, 197, 37, 198, 199, 200, 201, 202, 203, 204, 205, 206, 207, 208, 209, 210, 211, 212, 213, 214, 215, 216, 217, 218, 219, 220, 221, 222, 223, 224, 225, 226, 227, 228, 229, 230, 231, 1392, 1393, 1368, 1369, 1370, 1371, 1372, 1373, 1374, 1375, 1376, 1377, 1378, 1432, 1433, 1434, 1435, 1436, 1437, 1438, 1439, 1440, 1394, 1395, 1396] (by decide +kernel) (by decide +kernel)) (goodIn_sub (fun _ h => List.mem_append_right _ h) (by decide +kernel))) (goodIn_sub (fun _ h => List.mem_append_left _ (List.mem_append_left _ (List.mem_append_right _ h))) (by decide +kernel))) (goodIn_sub (fun _ h => List.mem_append_left _ (List.mem_append_right _ h)) (by decide +kernel))
set_option maxRecDepth 20000 in
theorem gL_law_L_sleeper : GoodIn wsL_law (va_wsS RL 138 yL_sleeper wsL_sleeper) := goodIn_app (goodIn_of _ (by decide +kernel)) ggL_law_L_sleeper
