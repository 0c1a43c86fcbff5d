/-! checks, closed by the kernel (laid by wip/whole/gen_words.py) -/
set_option maxRecDepth 100000 in
set_option maxHeartbeats 4000000 in
theorem pm_ki141 : ((pm_p141.all fun q => pm_okI 141 (pm_p141.map Prod.fst) q.1 q.2) && (pm_p141.map Prod.fst).contains 0) = true := by decide +kernel
set_option maxRecDepth 100000 in
set_option maxHeartbeats 4000000 in
theorem pm_km142 : pm_okM 142 1380 99 1379 70 = true := by decide +kernel
set_option maxRecDepth 100000 in
set_option maxHeartbeats 4000000 in
theorem pm_ki142 : ((pm_p142.all fun q => pm_okI 142 (pm_p142.map Prod.fst) q.1 q.2) && (pm_p142.map Prod.fst).contains 0) = true := by decide +kernel
set_option maxRecDepth 100000 in
set_option maxHeartbeats 4000000 in
theorem pm_km143 : pm_okM 143 1373 99 1372 69 = true := by decide +kernel
set_option maxRecDepth 100000 in
set_option maxHeartbeats 4000000 in
theorem pm_ki143 : ((pm_p143.all fun q => pm_okI 143 (pm_p143.map Prod.fst) q.1 q.2) && (pm_p143.map Prod.fst).contains 0) = true := by decide +kernel
set_option maxRecDepth 100000 in
set_option maxHeartbeats 4000000 in
theorem pm_km144 : pm_okM 144 1457 99 1456 75 = true := by decide +kernel
set_option maxRecDepth 100000 in
set_option maxHeartbeats 4000000 in
theorem pm_ki144 : ((pm_p144.all fun q => pm_okI 144 (pm_p144.map Prod.fst) q.1 q.2) && (pm_p144.map Prod.fst).contains 0) = true := by decide +kernel
set_option maxRecDepth 100000 in
set_option maxHeartbeats 4000000 in
theorem pm_km145 : pm_okM 145 1361 99 1359 1360 = true := by decide +kernel
set_option maxRecDepth 100000 in
set_option maxHeartbeats 4000000 in
theorem pm_ki145 : ((pm_p145.all fun q => pm_okI 145 (pm_p145.map Prod.fst) q.1 q.2) && (pm_p145.map Prod.fst).contains 0) = true := by decide +kernel
set_option maxRecDepth 100000 in
set_option maxHeartbeats 4000000 in
theorem pm_km146 : pm_okM 146 1384 99 1382 1383 = true := by decide +kernel
set_option maxRecDepth 100000 in
set_option maxHeartbeats 4000000 in
theorem pm_ki146 : ((pm_p146.all fun q => pm_okI 146 (pm_p146.map Prod.fst) q.1 q.2) && (pm_p146.map Prod.fst).contains 0) = true := by decide +kernel
set_option maxRecDepth 100000 in
set_option maxHeartbeats 4000000 in
theorem pm_km147 : pm_okM 147 1388 99 1386 1387 = true := by decide +kernel
set_option maxRecDepth 100000 in
set_option maxHeartbeats 4000000 in
theorem pm_ki147 : ((pm_p147.all fun q => pm_okI 147 (pm_p147.map Prod.fst) q.1 q.2) && (pm_p147.map Prod.fst).contains 0) = true := by decide +kernel
set_option maxRecDepth 100000 in
set_option maxHeartbeats 4000000 in
theorem pm_km148 : pm_okM 148 1392 99 1390 1391 = true := by decide +kernel
set_option maxRecDepth 100000 in
set_option maxHeartbeats 4000000 in
theorem pm_ki148 : ((pm_p148.all fun q => pm_okI 148 (pm_p148.map Prod.fst) q.1 q.2) && (pm_p148.map Prod.fst).contains 0) = true := by decide +kernel
set_option maxRecDepth 100000 in
set_option maxHeartbeats 4000000 in
theorem pm_km149 : pm_okM 149 1396 99 1394 1395 = true := by decide +kernel
set_option maxRecDepth 100000 in
set_option maxHeartbeats 4000000 in
theorem pm_ki149 : ((pm_p149.all fun q => pm_okI 149 (pm_p149.map Prod.fst) q.1 q.2) && (pm_p149.map Prod.fst).contains 0) = true := by decide +kernel
set_option maxRecDepth 100000 in
set_option maxHeartbeats 4000000 in
theorem pm_km150 : pm_okM 150 1408 99 1407 71 = true := by decide +kernel
set_option maxRecDepth 100000 in
set_option maxHeartbeats 4000000 in
theorem pm_ki150 : ((pm_p150.all fun q => pm_okI 150 (pm_p150.map Prod.fst) q.1 q.2) && (pm_p150.map Prod.fst).contains 0) = true := by decide +kernel
set_option maxRecDepth 100000 in
set_option maxHeartbeats 4000000 in
theorem pm_km151 : pm_okM 151 1400 99 1398 1399 = true := by decide +kernel
set_option maxRecDepth 100000 in
set_option maxHeartbeats 4000000 in
theorem pm_ki151 : ((pm_p151.all fun q => pm_okI 151 (pm_p151.map Prod.fst) q.1 q.2) && (pm_p151.map Prod.fst).contains 0) = true := by decide +kernel
set_option maxRecDepth 100000 in
set_option maxHeartbeats 4000000 in
theorem pm_km152 : pm_okM 152 1404 99 1402 1403 = true := by decide +kernel
set_option maxRecDepth 100000 in
set_option maxHeartbeats 4000000 in
theorem pm_ki152 : ((pm_p152.all fun q => pm_okI 152 (pm_p152.map Prod.fst) q.1 q.2) && (pm_p152.map Prod.fst).contains 0) = true := by decide +kernel
set_option maxRecDepth 100000 in
set_option maxHeartbeats 4000000 in
theorem pm_km153 : pm_okM 153 1412 99 1410 1411 = true := by decide +kernel
set_option maxRecDepth 100000 in
set_option maxHeartbeats 4000000 in
theorem pm_ki153 : ((pm_p153.all fun q => pm_okI 153 (pm_p153.map Prod.fst) q.1 q.2) && (pm_p153.map Prod.fst).contains 0) = true := by decide +kernel
set_option maxRecDepth 100000 in
set_option maxHeartbeats 4000000 in
theorem pm_km154 : pm_okM 154 1416 99 1414 1415 = true := by decide +kernel
set_option maxRecDepth 100000 in
set_option maxHeartbeats 4000000 in
theorem pm_ki154 : ((pm_p154.all fun q => pm_okI 154 (pm_p154.map Prod.fst) q.1 q.2) && (pm_p154.map Prod.fst).contains 0) = true := by decide +kernel
set_option maxRecDepth 100000 in
set_option maxHeartbeats 4000000 in
theorem pm_km155 : pm_okM 155 1420 99 1418 1419 = true := by decide +kernel
set_option maxRecDepth 100000 in
set_option maxHeartbeats 4000000 in
theorem pm_ki155 : ((pm_p155.all fun q => pm_okI 155 (pm_p155.map Prod.fst) q.1 q.2) && (pm_p155.map Prod.fst).contains 0) = true := by decide +kernel
set_option maxRecDepth 100000 in
set_option maxHeartbeats 4000000 in
theorem pm_km156 : pm_okM 156 1424 99 1422 1423 = true := by decide +kernel
set_option maxRecDepth 100000 in
set_option maxHeartbeats 4000000 in
theorem pm_ki156 : ((pm_p156.all fun q => pm_okI 156 (pm_p156.map Prod.fst) q.1 q.2) && (pm_p156.map Prod.fst).contains 0) = true := by decide +kernel
set_option maxRecDepth 100000 in
set_option maxHeartbeats 4000000 in
theorem pm_km157 : pm_okM 157 1428 99 1426 1427 = true := by decide +kernel
set_option maxRecDepth 100000 in
set_option maxHeartbeats 4000000 in
theorem pm_ki157 : ((pm_p157.all fun q => pm_okI 157 (pm_p157.map Prod.fst) q.1 q.2) && (pm_p157.map Prod.fst).contains 0) = true := by decide +kernel
set_option maxRecDepth 100000 in
set_option maxHeartbeats 4000000 in
theorem pm_km158 : pm_okM 158 1441 99 1440 73 = true := by decide +kernel
set_option maxRecDepth 100000 in
set_option maxHeartbeats 4000000 in
theorem pm_ki158 : ((pm_p158.all fun q => pm_okI 158 (pm_p158.map Prod.fst) q.1 q.2) && (pm_p158.map Prod.fst).contains 0) = true := by decide +kernel
