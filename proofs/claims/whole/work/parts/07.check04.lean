/-! checks, closed by the kernel (laid by wip/whole/gen_words.py) -/
set_option maxRecDepth 100000 in
set_option maxHeartbeats 4000000 in
theorem pm_km110 : pm_okM 110 645 90 644 21 = true := by decide +kernel
set_option maxRecDepth 100000 in
set_option maxHeartbeats 4000000 in
theorem pm_ki110 : ((pm_p110.all fun q => pm_okI 110 (pm_p110.map Prod.fst) q.1 q.2) && (pm_p110.map Prod.fst).contains 0) = true := by decide +kernel
set_option maxRecDepth 100000 in
set_option maxHeartbeats 4000000 in
theorem pm_km111 : pm_okM 111 808 90 807 36 = true := by decide +kernel
set_option maxRecDepth 100000 in
set_option maxHeartbeats 4000000 in
theorem pm_ki111 : ((pm_p111.all fun q => pm_okI 111 (pm_p111.map Prod.fst) q.1 q.2) && (pm_p111.map Prod.fst).contains 0) = true := by decide +kernel
set_option maxRecDepth 100000 in
set_option maxHeartbeats 4000000 in
theorem pm_km112 : pm_okM 112 870 90 869 39 = true := by decide +kernel
set_option maxRecDepth 100000 in
set_option maxHeartbeats 4000000 in
theorem pm_ki112 : ((pm_p112.all fun q => pm_okI 112 (pm_p112.map Prod.fst) q.1 q.2) && (pm_p112.map Prod.fst).contains 0) = true := by decide +kernel
set_option maxRecDepth 100000 in
set_option maxHeartbeats 4000000 in
theorem pm_km113 : pm_okM 113 926 90 925 44 = true := by decide +kernel
set_option maxRecDepth 100000 in
set_option maxHeartbeats 4000000 in
theorem pm_ki113 : ((pm_p113.all fun q => pm_okI 113 (pm_p113.map Prod.fst) q.1 q.2) && (pm_p113.map Prod.fst).contains 0) = true := by decide +kernel
set_option maxRecDepth 100000 in
set_option maxHeartbeats 4000000 in
theorem pm_km114 : pm_okM 114 964 90 963 47 = true := by decide +kernel
set_option maxRecDepth 100000 in
set_option maxHeartbeats 4000000 in
theorem pm_ki114 : ((pm_p114.all fun q => pm_okI 114 (pm_p114.map Prod.fst) q.1 q.2) && (pm_p114.map Prod.fst).contains 0) = true := by decide +kernel
set_option maxRecDepth 100000 in
set_option maxHeartbeats 4000000 in
theorem pm_km115 : pm_okM 115 1052 90 1051 0 = true := by decide +kernel
set_option maxRecDepth 100000 in
set_option maxHeartbeats 4000000 in
theorem pm_ki115 : ((pm_p115.all fun q => pm_okI 115 (pm_p115.map Prod.fst) q.1 q.2) && (pm_p115.map Prod.fst).contains 0) = true := by decide +kernel
set_option maxRecDepth 100000 in
set_option maxHeartbeats 4000000 in
theorem pm_km116 : pm_okM 116 396 90 395 7 = true := by decide +kernel
set_option maxRecDepth 100000 in
set_option maxHeartbeats 4000000 in
theorem pm_ki116 : ((pm_p116.all fun q => pm_okI 116 (pm_p116.map Prod.fst) q.1 q.2) && (pm_p116.map Prod.fst).contains 0) = true := by decide +kernel
set_option maxRecDepth 100000 in
set_option maxHeartbeats 4000000 in
theorem pm_km117 : pm_okM 117 650 90 649 22 = true := by decide +kernel
set_option maxRecDepth 100000 in
set_option maxHeartbeats 4000000 in
theorem pm_ki117 : ((pm_p117.all fun q => pm_okI 117 (pm_p117.map Prod.fst) q.1 q.2) && (pm_p117.map Prod.fst).contains 0) = true := by decide +kernel
set_option maxRecDepth 100000 in
set_option maxHeartbeats 4000000 in
theorem pm_km118 : pm_okM 118 1046 90 1045 55 = true := by decide +kernel
set_option maxRecDepth 100000 in
set_option maxHeartbeats 4000000 in
theorem pm_ki118 : ((pm_p118.all fun q => pm_okI 118 (pm_p118.map Prod.fst) q.1 q.2) && (pm_p118.map Prod.fst).contains 0) = true := by decide +kernel
set_option maxRecDepth 100000 in
set_option maxHeartbeats 4000000 in
theorem pm_km119 : pm_okM 119 1063 90 1062 56 = true := by decide +kernel
set_option maxRecDepth 100000 in
set_option maxHeartbeats 4000000 in
theorem pm_ki119 : ((pm_p119.all fun q => pm_okI 119 (pm_p119.map Prod.fst) q.1 q.2) && (pm_p119.map Prod.fst).contains 0) = true := by decide +kernel
set_option maxRecDepth 100000 in
set_option maxHeartbeats 4000000 in
theorem pm_km120 : pm_okM 120 1126 90 1125 59 = true := by decide +kernel
set_option maxRecDepth 100000 in
set_option maxHeartbeats 4000000 in
theorem pm_ki120 : ((pm_p120.all fun q => pm_okI 120 (pm_p120.map Prod.fst) q.1 q.2) && (pm_p120.map Prod.fst).contains 0) = true := by decide +kernel
set_option maxRecDepth 100000 in
set_option maxHeartbeats 4000000 in
theorem pm_km121 : pm_okM 121 1130 90 1129 60 = true := by decide +kernel
set_option maxRecDepth 100000 in
set_option maxHeartbeats 4000000 in
theorem pm_ki121 : ((pm_p121.all fun q => pm_okI 121 (pm_p121.map Prod.fst) q.1 q.2) && (pm_p121.map Prod.fst).contains 0) = true := by decide +kernel
set_option maxRecDepth 100000 in
set_option maxHeartbeats 4000000 in
theorem pm_km122 : pm_okM 122 1158 99 1157 0 = true := by decide +kernel
set_option maxRecDepth 100000 in
set_option maxHeartbeats 4000000 in
theorem pm_ki122 : ((pm_p122.all fun q => pm_okI 122 (pm_p122.map Prod.fst) q.1 q.2) && (pm_p122.map Prod.fst).contains 0) = true := by decide +kernel
set_option maxRecDepth 100000 in
set_option maxHeartbeats 4000000 in
theorem pm_km123 : pm_okM 123 1299 99 1297 1298 = true := by decide +kernel
set_option maxRecDepth 100000 in
set_option maxHeartbeats 4000000 in
theorem pm_ki123 : ((pm_p123.all fun q => pm_okI 123 (pm_p123.map Prod.fst) q.1 q.2) && (pm_p123.map Prod.fst).contains 0) = true := by decide +kernel
set_option maxRecDepth 100000 in
set_option maxHeartbeats 4000000 in
theorem pm_km124 : pm_okM 124 1306 99 1305 0 = true := by decide +kernel
set_option maxRecDepth 100000 in
set_option maxHeartbeats 4000000 in
theorem pm_ki124 : ((pm_p124.all fun q => pm_okI 124 (pm_p124.map Prod.fst) q.1 q.2) && (pm_p124.map Prod.fst).contains 0) = true := by decide +kernel
set_option maxRecDepth 100000 in
set_option maxHeartbeats 4000000 in
theorem pm_km125 : pm_okM 125 1310 99 1309 62 = true := by decide +kernel
set_option maxRecDepth 100000 in
set_option maxHeartbeats 4000000 in
theorem pm_ki125 : ((pm_p125.all fun q => pm_okI 125 (pm_p125.map Prod.fst) q.1 q.2) && (pm_p125.map Prod.fst).contains 0) = true := by decide +kernel
set_option maxRecDepth 100000 in
set_option maxHeartbeats 4000000 in
theorem pm_km126 : pm_okM 126 1314 99 1313 63 = true := by decide +kernel
set_option maxRecDepth 100000 in
set_option maxHeartbeats 4000000 in
theorem pm_ki126 : ((pm_p126.all fun q => pm_okI 126 (pm_p126.map Prod.fst) q.1 q.2) && (pm_p126.map Prod.fst).contains 0) = true := by decide +kernel
set_option maxRecDepth 100000 in
set_option maxHeartbeats 4000000 in
theorem pm_km127 : pm_okM 127 1353 99 1352 66 = true := by decide +kernel
set_option maxRecDepth 100000 in
set_option maxHeartbeats 4000000 in
theorem pm_ki127 : ((pm_p127.all fun q => pm_okI 127 (pm_p127.map Prod.fst) q.1 q.2) && (pm_p127.map Prod.fst).contains 0) = true := by decide +kernel
set_option maxRecDepth 100000 in
set_option maxHeartbeats 4000000 in
theorem pm_km128 : pm_okM 128 1365 99 1364 67 = true := by decide +kernel
set_option maxRecDepth 100000 in
set_option maxHeartbeats 4000000 in
theorem pm_ki128 : ((pm_p128.all fun q => pm_okI 128 (pm_p128.map Prod.fst) q.1 q.2) && (pm_p128.map Prod.fst).contains 0) = true := by decide +kernel
set_option maxRecDepth 100000 in
set_option maxHeartbeats 4000000 in
theorem pm_km129 : pm_okM 129 1303 99 1301 1302 = true := by decide +kernel
set_option maxRecDepth 100000 in
set_option maxHeartbeats 4000000 in
theorem pm_ki129 : ((pm_p129.all fun q => pm_okI 129 (pm_p129.map Prod.fst) q.1 q.2) && (pm_p129.map Prod.fst).contains 0) = true := by decide +kernel
set_option maxRecDepth 100000 in
set_option maxHeartbeats 4000000 in
theorem pm_km130 : pm_okM 130 1318 99 1316 1317 = true := by decide +kernel
set_option maxRecDepth 100000 in
set_option maxHeartbeats 4000000 in
theorem pm_ki130 : ((pm_p130.all fun q => pm_okI 130 (pm_p130.map Prod.fst) q.1 q.2) && (pm_p130.map Prod.fst).contains 0) = true := by decide +kernel
set_option maxRecDepth 100000 in
set_option maxHeartbeats 4000000 in
theorem pm_km131 : pm_okM 131 1322 99 1320 1321 = true := by decide +kernel
set_option maxRecDepth 100000 in
set_option maxHeartbeats 4000000 in
theorem pm_ki131 : ((pm_p131.all fun q => pm_okI 131 (pm_p131.map Prod.fst) q.1 q.2) && (pm_p131.map Prod.fst).contains 0) = true := by decide +kernel
set_option maxRecDepth 100000 in
set_option maxHeartbeats 4000000 in
theorem pm_km132 : pm_okM 132 1326 99 1324 1325 = true := by decide +kernel
set_option maxRecDepth 100000 in
set_option maxHeartbeats 4000000 in
theorem pm_ki132 : ((pm_p132.all fun q => pm_okI 132 (pm_p132.map Prod.fst) q.1 q.2) && (pm_p132.map Prod.fst).contains 0) = true := by decide +kernel
set_option maxRecDepth 100000 in
set_option maxHeartbeats 4000000 in
theorem pm_km133 : pm_okM 133 1334 99 1333 64 = true := by decide +kernel
set_option maxRecDepth 100000 in
set_option maxHeartbeats 4000000 in
theorem pm_ki133 : ((pm_p133.all fun q => pm_okI 133 (pm_p133.map Prod.fst) q.1 q.2) && (pm_p133.map Prod.fst).contains 0) = true := by decide +kernel
set_option maxRecDepth 100000 in
set_option maxHeartbeats 4000000 in
theorem pm_km134 : pm_okM 134 1330 99 1328 1329 = true := by decide +kernel
set_option maxRecDepth 100000 in
set_option maxHeartbeats 4000000 in
theorem pm_ki134 : ((pm_p134.all fun q => pm_okI 134 (pm_p134.map Prod.fst) q.1 q.2) && (pm_p134.map Prod.fst).contains 0) = true := by decide +kernel
set_option maxRecDepth 100000 in
set_option maxHeartbeats 4000000 in
theorem pm_km135 : pm_okM 135 1341 99 1340 0 = true := by decide +kernel
set_option maxRecDepth 100000 in
set_option maxHeartbeats 4000000 in
theorem pm_ki135 : ((pm_p135.all fun q => pm_okI 135 (pm_p135.map Prod.fst) q.1 q.2) && (pm_p135.map Prod.fst).contains 0) = true := by decide +kernel
set_option maxRecDepth 100000 in
set_option maxHeartbeats 4000000 in
theorem pm_km136 : pm_okM 136 1338 99 1336 1337 = true := by decide +kernel
set_option maxRecDepth 100000 in
set_option maxHeartbeats 4000000 in
theorem pm_ki136 : ((pm_p136.all fun q => pm_okI 136 (pm_p136.map Prod.fst) q.1 q.2) && (pm_p136.map Prod.fst).contains 0) = true := by decide +kernel
set_option maxRecDepth 100000 in
set_option maxHeartbeats 4000000 in
theorem pm_km137 : pm_okM 137 1349 99 1348 65 = true := by decide +kernel
set_option maxRecDepth 100000 in
set_option maxHeartbeats 4000000 in
theorem pm_ki137 : ((pm_p137.all fun q => pm_okI 137 (pm_p137.map Prod.fst) q.1 q.2) && (pm_p137.map Prod.fst).contains 0) = true := by decide +kernel
set_option maxRecDepth 100000 in
set_option maxHeartbeats 4000000 in
theorem pm_km138 : pm_okM 138 1345 99 1343 1344 = true := by decide +kernel
set_option maxRecDepth 100000 in
set_option maxHeartbeats 4000000 in
theorem pm_ki138 : ((pm_p138.all fun q => pm_okI 138 (pm_p138.map Prod.fst) q.1 q.2) && (pm_p138.map Prod.fst).contains 0) = true := by decide +kernel
set_option maxRecDepth 100000 in
set_option maxHeartbeats 4000000 in
theorem pm_km139 : pm_okM 139 1357 99 1355 1356 = true := by decide +kernel
set_option maxRecDepth 100000 in
set_option maxHeartbeats 4000000 in
theorem pm_ki139 : ((pm_p139.all fun q => pm_okI 139 (pm_p139.map Prod.fst) q.1 q.2) && (pm_p139.map Prod.fst).contains 0) = true := by decide +kernel
set_option maxRecDepth 100000 in
set_option maxHeartbeats 4000000 in
theorem pm_km140 : pm_okM 140 1369 99 1368 68 = true := by decide +kernel
set_option maxRecDepth 100000 in
set_option maxHeartbeats 4000000 in
theorem pm_ki140 : ((pm_p140.all fun q => pm_okI 140 (pm_p140.map Prod.fst) q.1 q.2) && (pm_p140.map Prod.fst).contains 0) = true := by decide +kernel
set_option maxRecDepth 100000 in
set_option maxHeartbeats 4000000 in
theorem pm_km141 : pm_okM 141 1376 99 1375 0 = true := by decide +kernel
