/-! checks, closed by the kernel (laid by wip/whole/gen_words.py) -/
set_option maxRecDepth 100000 in
set_option maxHeartbeats 4000000 in
theorem pm_ki141 : ((pm_p141.all fun q => pm_okI 141 (pm_p141.map Prod.fst) q.1 q.2) && (pm_p141.map Prod.fst).contains 0) = true := by decide +kernel
set_option maxRecDepth 100000 in
set_option maxHeartbeats 4000000 in
theorem pm_km142 : pm_okM 142 1375 98 1374 69 = true := by decide +kernel
set_option maxRecDepth 100000 in
set_option maxHeartbeats 4000000 in
theorem pm_ki142 : ((pm_p142.all fun q => pm_okI 142 (pm_p142.map Prod.fst) q.1 q.2) && (pm_p142.map Prod.fst).contains 0) = true := by decide +kernel
set_option maxRecDepth 100000 in
set_option maxHeartbeats 4000000 in
theorem pm_km143 : pm_okM 143 1368 98 1367 68 = true := by decide +kernel
set_option maxRecDepth 100000 in
set_option maxHeartbeats 4000000 in
theorem pm_ki143 : ((pm_p143.all fun q => pm_okI 143 (pm_p143.map Prod.fst) q.1 q.2) && (pm_p143.map Prod.fst).contains 0) = true := by decide +kernel
set_option maxRecDepth 100000 in
set_option maxHeartbeats 4000000 in
theorem pm_km144 : pm_okM 144 1452 98 1451 74 = true := by decide +kernel
set_option maxRecDepth 100000 in
set_option maxHeartbeats 4000000 in
theorem pm_ki144 : ((pm_p144.all fun q => pm_okI 144 (pm_p144.map Prod.fst) q.1 q.2) && (pm_p144.map Prod.fst).contains 0) = true := by decide +kernel
set_option maxRecDepth 100000 in
set_option maxHeartbeats 4000000 in
theorem pm_km145 : pm_okM 145 1356 98 1354 1355 = true := by decide +kernel
set_option maxRecDepth 100000 in
set_option maxHeartbeats 4000000 in
theorem pm_ki145 : ((pm_p145.all fun q => pm_okI 145 (pm_p145.map Prod.fst) q.1 q.2) && (pm_p145.map Prod.fst).contains 0) = true := by decide +kernel
set_option maxRecDepth 100000 in
set_option maxHeartbeats 4000000 in
theorem pm_km146 : pm_okM 146 1379 98 1377 1378 = true := by decide +kernel
set_option maxRecDepth 100000 in
set_option maxHeartbeats 4000000 in
theorem pm_ki146 : ((pm_p146.all fun q => pm_okI 146 (pm_p146.map Prod.fst) q.1 q.2) && (pm_p146.map Prod.fst).contains 0) = true := by decide +kernel
set_option maxRecDepth 100000 in
set_option maxHeartbeats 4000000 in
theorem pm_km147 : pm_okM 147 1383 98 1381 1382 = true := by decide +kernel
set_option maxRecDepth 100000 in
set_option maxHeartbeats 4000000 in
theorem pm_ki147 : ((pm_p147.all fun q => pm_okI 147 (pm_p147.map Prod.fst) q.1 q.2) && (pm_p147.map Prod.fst).contains 0) = true := by decide +kernel
set_option maxRecDepth 100000 in
set_option maxHeartbeats 4000000 in
theorem pm_km148 : pm_okM 148 1387 98 1385 1386 = true := by decide +kernel
set_option maxRecDepth 100000 in
set_option maxHeartbeats 4000000 in
theorem pm_ki148 : ((pm_p148.all fun q => pm_okI 148 (pm_p148.map Prod.fst) q.1 q.2) && (pm_p148.map Prod.fst).contains 0) = true := by decide +kernel
set_option maxRecDepth 100000 in
set_option maxHeartbeats 4000000 in
theorem pm_km149 : pm_okM 149 1391 98 1389 1390 = true := by decide +kernel
set_option maxRecDepth 100000 in
set_option maxHeartbeats 4000000 in
theorem pm_ki149 : ((pm_p149.all fun q => pm_okI 149 (pm_p149.map Prod.fst) q.1 q.2) && (pm_p149.map Prod.fst).contains 0) = true := by decide +kernel
set_option maxRecDepth 100000 in
set_option maxHeartbeats 4000000 in
theorem pm_km150 : pm_okM 150 1403 98 1402 70 = true := by decide +kernel
set_option maxRecDepth 100000 in
set_option maxHeartbeats 4000000 in
theorem pm_ki150 : ((pm_p150.all fun q => pm_okI 150 (pm_p150.map Prod.fst) q.1 q.2) && (pm_p150.map Prod.fst).contains 0) = true := by decide +kernel
set_option maxRecDepth 100000 in
set_option maxHeartbeats 4000000 in
theorem pm_km151 : pm_okM 151 1395 98 1393 1394 = true := by decide +kernel
set_option maxRecDepth 100000 in
set_option maxHeartbeats 4000000 in
theorem pm_ki151 : ((pm_p151.all fun q => pm_okI 151 (pm_p151.map Prod.fst) q.1 q.2) && (pm_p151.map Prod.fst).contains 0) = true := by decide +kernel
set_option maxRecDepth 100000 in
set_option maxHeartbeats 4000000 in
theorem pm_km152 : pm_okM 152 1399 98 1397 1398 = true := by decide +kernel
set_option maxRecDepth 100000 in
set_option maxHeartbeats 4000000 in
theorem pm_ki152 : ((pm_p152.all fun q => pm_okI 152 (pm_p152.map Prod.fst) q.1 q.2) && (pm_p152.map Prod.fst).contains 0) = true := by decide +kernel
set_option maxRecDepth 100000 in
set_option maxHeartbeats 4000000 in
theorem pm_km153 : pm_okM 153 1407 98 1405 1406 = true := by decide +kernel
set_option maxRecDepth 100000 in
set_option maxHeartbeats 4000000 in
theorem pm_ki153 : ((pm_p153.all fun q => pm_okI 153 (pm_p153.map Prod.fst) q.1 q.2) && (pm_p153.map Prod.fst).contains 0) = true := by decide +kernel
set_option maxRecDepth 100000 in
set_option maxHeartbeats 4000000 in
theorem pm_km154 : pm_okM 154 1411 98 1409 1410 = true := by decide +kernel
set_option maxRecDepth 100000 in
set_option maxHeartbeats 4000000 in
theorem pm_ki154 : ((pm_p154.all fun q => pm_okI 154 (pm_p154.map Prod.fst) q.1 q.2) && (pm_p154.map Prod.fst).contains 0) = true := by decide +kernel
set_option maxRecDepth 100000 in
set_option maxHeartbeats 4000000 in
theorem pm_km155 : pm_okM 155 1415 98 1413 1414 = true := by decide +kernel
set_option maxRecDepth 100000 in
set_option maxHeartbeats 4000000 in
theorem pm_ki155 : ((pm_p155.all fun q => pm_okI 155 (pm_p155.map Prod.fst) q.1 q.2) && (pm_p155.map Prod.fst).contains 0) = true := by decide +kernel
set_option maxRecDepth 100000 in
set_option maxHeartbeats 4000000 in
theorem pm_km156 : pm_okM 156 1419 98 1417 1418 = true := by decide +kernel
set_option maxRecDepth 100000 in
set_option maxHeartbeats 4000000 in
theorem pm_ki156 : ((pm_p156.all fun q => pm_okI 156 (pm_p156.map Prod.fst) q.1 q.2) && (pm_p156.map Prod.fst).contains 0) = true := by decide +kernel
set_option maxRecDepth 100000 in
set_option maxHeartbeats 4000000 in
theorem pm_km157 : pm_okM 157 1423 98 1421 1422 = true := by decide +kernel
set_option maxRecDepth 100000 in
set_option maxHeartbeats 4000000 in
theorem pm_ki157 : ((pm_p157.all fun q => pm_okI 157 (pm_p157.map Prod.fst) q.1 q.2) && (pm_p157.map Prod.fst).contains 0) = true := by decide +kernel
set_option maxRecDepth 100000 in
set_option maxHeartbeats 4000000 in
theorem pm_km158 : pm_okM 158 1436 98 1435 72 = true := by decide +kernel
set_option maxRecDepth 100000 in
set_option maxHeartbeats 4000000 in
theorem pm_ki158 : ((pm_p158.all fun q => pm_okI 158 (pm_p158.map Prod.fst) q.1 q.2) && (pm_p158.map Prod.fst).contains 0) = true := by decide +kernel
