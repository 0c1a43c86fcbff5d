/-! checks, closed by the kernel (laid by wip/whole/gen_words.py) -/
set_option maxRecDepth 100000 in
set_option maxHeartbeats 4000000 in
theorem pm_km159 : pm_okM 159 1437 99 1436 72 = true := by decide +kernel
set_option maxRecDepth 100000 in
set_option maxHeartbeats 4000000 in
theorem pm_ki159 : ((pm_p159.all fun q => pm_okI 159 (pm_p159.map Prod.fst) q.1 q.2) && (pm_p159.map Prod.fst).contains 0) = true := by decide +kernel
set_option maxRecDepth 100000 in
set_option maxHeartbeats 4000000 in
theorem pm_km160 : pm_okM 160 1433 99 1431 1432 = true := by decide +kernel
set_option maxRecDepth 100000 in
set_option maxHeartbeats 4000000 in
theorem pm_ki160 : ((pm_p160.all fun q => pm_okI 160 (pm_p160.map Prod.fst) q.1 q.2) && (pm_p160.map Prod.fst).contains 0) = true := by decide +kernel
set_option maxRecDepth 100000 in
set_option maxHeartbeats 4000000 in
theorem pm_km161 : pm_okM 161 1445 99 1443 1444 = true := by decide +kernel
set_option maxRecDepth 100000 in
set_option maxHeartbeats 4000000 in
theorem pm_ki161 : ((pm_p161.all fun q => pm_okI 161 (pm_p161.map Prod.fst) q.1 q.2) && (pm_p161.map Prod.fst).contains 0) = true := by decide +kernel
set_option maxRecDepth 100000 in
set_option maxHeartbeats 4000000 in
theorem pm_km162 : pm_okM 162 1453 99 1452 74 = true := by decide +kernel
set_option maxRecDepth 100000 in
set_option maxHeartbeats 4000000 in
theorem pm_ki162 : ((pm_p162.all fun q => pm_okI 162 (pm_p162.map Prod.fst) q.1 q.2) && (pm_p162.map Prod.fst).contains 0) = true := by decide +kernel
set_option maxRecDepth 100000 in
set_option maxHeartbeats 4000000 in
theorem pm_km163 : pm_okM 163 1449 99 1447 1448 = true := by decide +kernel
set_option maxRecDepth 100000 in
set_option maxHeartbeats 4000000 in
theorem pm_ki163 : ((pm_p163.all fun q => pm_okI 163 (pm_p163.map Prod.fst) q.1 q.2) && (pm_p163.map Prod.fst).contains 0) = true := by decide +kernel
set_option maxRecDepth 100000 in
set_option maxHeartbeats 4000000 in
theorem pm_km164 : pm_okM 164 1461 99 1459 1460 = true := by decide +kernel
set_option maxRecDepth 100000 in
set_option maxHeartbeats 4000000 in
theorem pm_ki164 : ((pm_p164.all fun q => pm_okI 164 (pm_p164.map Prod.fst) q.1 q.2) && (pm_p164.map Prod.fst).contains 0) = true := by decide +kernel
set_option maxRecDepth 100000 in
set_option maxHeartbeats 4000000 in
theorem pm_km165 : pm_okM 165 1465 99 1463 1464 = true := by decide +kernel
set_option maxRecDepth 100000 in
set_option maxHeartbeats 4000000 in
theorem pm_ki165 : ((pm_p165.all fun q => pm_okI 165 (pm_p165.map Prod.fst) q.1 q.2) && (pm_p165.map Prod.fst).contains 0) = true := by decide +kernel
set_option maxRecDepth 100000 in
set_option maxHeartbeats 4000000 in
theorem pm_km166 : pm_okM 166 1469 99 1467 1468 = true := by decide +kernel
set_option maxRecDepth 100000 in
set_option maxHeartbeats 4000000 in
theorem pm_ki166 : ((pm_p166.all fun q => pm_okI 166 (pm_p166.map Prod.fst) q.1 q.2) && (pm_p166.map Prod.fst).contains 0) = true := by decide +kernel
set_option maxRecDepth 100000 in
set_option maxHeartbeats 4000000 in
theorem pm_km167 : pm_okM 167 1473 99 1471 1472 = true := by decide +kernel
set_option maxRecDepth 100000 in
set_option maxHeartbeats 4000000 in
theorem pm_ki167 : ((pm_p167.all fun q => pm_okI 167 (pm_p167.map Prod.fst) q.1 q.2) && (pm_p167.map Prod.fst).contains 0) = true := by decide +kernel
set_option maxRecDepth 100000 in
set_option maxHeartbeats 4000000 in
theorem pm_km168 : pm_okM 168 1485 99 1484 77 = true := by decide +kernel
set_option maxRecDepth 100000 in
set_option maxHeartbeats 4000000 in
theorem pm_ki168 : ((pm_p168.all fun q => pm_okI 168 (pm_p168.map Prod.fst) q.1 q.2) && (pm_p168.map Prod.fst).contains 0) = true := by decide +kernel
set_option maxRecDepth 100000 in
set_option maxHeartbeats 4000000 in
theorem pm_km169 : pm_okM 169 1489 99 1488 78 = true := by decide +kernel
set_option maxRecDepth 100000 in
set_option maxHeartbeats 4000000 in
theorem pm_ki169 : ((pm_p169.all fun q => pm_okI 169 (pm_p169.map Prod.fst) q.1 q.2) && (pm_p169.map Prod.fst).contains 0) = true := by decide +kernel
set_option maxRecDepth 100000 in
set_option maxHeartbeats 4000000 in
theorem pm_km170 : pm_okM 170 1497 99 1496 79 = true := by decide +kernel
set_option maxRecDepth 100000 in
set_option maxHeartbeats 4000000 in
theorem pm_ki170 : ((pm_p170.all fun q => pm_okI 170 (pm_p170.map Prod.fst) q.1 q.2) && (pm_p170.map Prod.fst).contains 0) = true := by decide +kernel
set_option maxRecDepth 100000 in
set_option maxHeartbeats 4000000 in
theorem pm_km171 : pm_okM 171 1481 99 1480 76 = true := by decide +kernel
set_option maxRecDepth 100000 in
set_option maxHeartbeats 4000000 in
theorem pm_ki171 : ((pm_p171.all fun q => pm_okI 171 (pm_p171.map Prod.fst) q.1 q.2) && (pm_p171.map Prod.fst).contains 0) = true := by decide +kernel
set_option maxRecDepth 100000 in
set_option maxHeartbeats 4000000 in
theorem pm_km172 : pm_okM 172 1477 99 1475 1476 = true := by decide +kernel
set_option maxRecDepth 100000 in
set_option maxHeartbeats 4000000 in
theorem pm_ki172 : ((pm_p172.all fun q => pm_okI 172 (pm_p172.map Prod.fst) q.1 q.2) && (pm_p172.map Prod.fst).contains 0) = true := by decide +kernel
set_option maxRecDepth 100000 in
set_option maxHeartbeats 4000000 in
theorem pm_km173 : pm_okM 173 1493 99 1491 1492 = true := by decide +kernel
set_option maxRecDepth 100000 in
set_option maxHeartbeats 4000000 in
theorem pm_ki173 : ((pm_p173.all fun q => pm_okI 173 (pm_p173.map Prod.fst) q.1 q.2) && (pm_p173.map Prod.fst).contains 0) = true := by decide +kernel
set_option maxRecDepth 100000 in
set_option maxHeartbeats 4000000 in
theorem pm_km174 : pm_okM 174 1501 99 1499 1500 = true := by decide +kernel
set_option maxRecDepth 100000 in
set_option maxHeartbeats 4000000 in
theorem pm_ki174 : ((pm_p174.all fun q => pm_okI 174 (pm_p174.map Prod.fst) q.1 q.2) && (pm_p174.map Prod.fst).contains 0) = true := by decide +kernel
set_option maxRecDepth 100000 in
set_option maxHeartbeats 4000000 in
theorem pm_km175 : pm_okM 175 1505 99 1503 1504 = true := by decide +kernel
set_option maxRecDepth 100000 in
set_option maxHeartbeats 4000000 in
theorem pm_ki175 : ((pm_p175.all fun q => pm_okI 175 (pm_p175.map Prod.fst) q.1 q.2) && (pm_p175.map Prod.fst).contains 0) = true := by decide +kernel
set_option maxRecDepth 100000 in
set_option maxHeartbeats 4000000 in
theorem pm_km176 : pm_okM 176 1509 99 1507 1508 = true := by decide +kernel
set_option maxRecDepth 100000 in
set_option maxHeartbeats 4000000 in
theorem pm_ki176 : ((pm_p176.all fun q => pm_okI 176 (pm_p176.map Prod.fst) q.1 q.2) && (pm_p176.map Prod.fst).contains 0) = true := by decide +kernel
set_option maxRecDepth 100000 in
set_option maxHeartbeats 4000000 in
theorem pm_km177 : pm_okM 177 1517 99 1516 80 = true := by decide +kernel
set_option maxRecDepth 100000 in
set_option maxHeartbeats 4000000 in
theorem pm_ki177 : ((pm_p177.all fun q => pm_okI 177 (pm_p177.map Prod.fst) q.1 q.2) && (pm_p177.map Prod.fst).contains 0) = true := by decide +kernel
