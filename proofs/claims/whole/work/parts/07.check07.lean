/-! checks, closed by the kernel (laid by wip/whole/gen_words.py) -/
set_option maxRecDepth 100000 in
set_option maxHeartbeats 4000000 in
theorem pm_km178 : pm_okM 178 1513 99 1511 1512 = true := by decide +kernel
set_option maxRecDepth 100000 in
set_option maxHeartbeats 4000000 in
theorem pm_ki178 : ((pm_p178.all fun q => pm_okI 178 (pm_p178.map Prod.fst) q.1 q.2) && (pm_p178.map Prod.fst).contains 0) = true := by decide +kernel
set_option maxRecDepth 100000 in
set_option maxHeartbeats 4000000 in
theorem pm_km179 : pm_okM 179 1521 99 1519 1520 = true := by decide +kernel
set_option maxRecDepth 100000 in
set_option maxHeartbeats 4000000 in
theorem pm_ki179 : ((pm_p179.all fun q => pm_okI 179 (pm_p179.map Prod.fst) q.1 q.2) && (pm_p179.map Prod.fst).contains 0) = true := by decide +kernel
set_option maxRecDepth 100000 in
set_option maxHeartbeats 4000000 in
theorem pm_km180 : pm_okM 180 1525 99 1523 1524 = true := by decide +kernel
set_option maxRecDepth 100000 in
set_option maxHeartbeats 4000000 in
theorem pm_ki180 : ((pm_p180.all fun q => pm_okI 180 (pm_p180.map Prod.fst) q.1 q.2) && (pm_p180.map Prod.fst).contains 0) = true := by decide +kernel
set_option maxRecDepth 100000 in
set_option maxHeartbeats 4000000 in
theorem pm_km181 : pm_okM 181 1540 99 1539 82 = true := by decide +kernel
set_option maxRecDepth 100000 in
set_option maxHeartbeats 4000000 in
theorem pm_ki181 : ((pm_p181.all fun q => pm_okI 181 (pm_p181.map Prod.fst) q.1 q.2) && (pm_p181.map Prod.fst).contains 0) = true := by decide +kernel
set_option maxRecDepth 100000 in
set_option maxHeartbeats 4000000 in
theorem pm_km182 : pm_okM 182 1536 99 1535 0 = true := by decide +kernel
set_option maxRecDepth 100000 in
set_option maxHeartbeats 4000000 in
theorem pm_ki182 : ((pm_p182.all fun q => pm_okI 182 (pm_p182.map Prod.fst) q.1 q.2) && (pm_p182.map Prod.fst).contains 0) = true := by decide +kernel
set_option maxRecDepth 100000 in
set_option maxHeartbeats 4000000 in
theorem pm_km183 : pm_okM 183 1533 99 1532 81 = true := by decide +kernel
set_option maxRecDepth 100000 in
set_option maxHeartbeats 4000000 in
theorem pm_ki183 : ((pm_p183.all fun q => pm_okI 183 (pm_p183.map Prod.fst) q.1 q.2) && (pm_p183.map Prod.fst).contains 0) = true := by decide +kernel
set_option maxRecDepth 100000 in
set_option maxHeartbeats 4000000 in
theorem pm_km184 : pm_okM 184 1529 99 1527 1528 = true := by decide +kernel
set_option maxRecDepth 100000 in
set_option maxHeartbeats 4000000 in
theorem pm_ki184 : ((pm_p184.all fun q => pm_okI 184 (pm_p184.map Prod.fst) q.1 q.2) && (pm_p184.map Prod.fst).contains 0) = true := by decide +kernel
set_option maxRecDepth 100000 in
set_option maxHeartbeats 4000000 in
theorem pm_km185 : pm_okM 185 1544 99 1542 1543 = true := by decide +kernel
set_option maxRecDepth 100000 in
set_option maxHeartbeats 4000000 in
theorem pm_ki185 : ((pm_p185.all fun q => pm_okI 185 (pm_p185.map Prod.fst) q.1 q.2) && (pm_p185.map Prod.fst).contains 0) = true := by decide +kernel
set_option maxRecDepth 100000 in
set_option maxHeartbeats 4000000 in
theorem pm_km186 : pm_okM 186 1555 99 1554 0 = true := by decide +kernel
set_option maxRecDepth 100000 in
set_option maxHeartbeats 4000000 in
theorem pm_ki186 : ((pm_p186.all fun q => pm_okI 186 (pm_p186.map Prod.fst) q.1 q.2) && (pm_p186.map Prod.fst).contains 0) = true := by decide +kernel
set_option maxRecDepth 100000 in
set_option maxHeartbeats 4000000 in
theorem pm_km187 : pm_okM 187 1559 99 1558 84 = true := by decide +kernel
set_option maxRecDepth 100000 in
set_option maxHeartbeats 4000000 in
theorem pm_ki187 : ((pm_p187.all fun q => pm_okI 187 (pm_p187.map Prod.fst) q.1 q.2) && (pm_p187.map Prod.fst).contains 0) = true := by decide +kernel
set_option maxRecDepth 100000 in
set_option maxHeartbeats 4000000 in
theorem pm_km188 : pm_okM 188 1552 99 1551 83 = true := by decide +kernel
set_option maxRecDepth 100000 in
set_option maxHeartbeats 4000000 in
theorem pm_ki188 : ((pm_p188.all fun q => pm_okI 188 (pm_p188.map Prod.fst) q.1 q.2) && (pm_p188.map Prod.fst).contains 0) = true := by decide +kernel
set_option maxRecDepth 100000 in
set_option maxHeartbeats 4000000 in
theorem pm_km189 : pm_okM 189 1548 99 1546 1547 = true := by decide +kernel
set_option maxRecDepth 100000 in
set_option maxHeartbeats 4000000 in
theorem pm_ki189 : ((pm_p189.all fun q => pm_okI 189 (pm_p189.map Prod.fst) q.1 q.2) && (pm_p189.map Prod.fst).contains 0) = true := by decide +kernel
set_option maxRecDepth 100000 in
set_option maxHeartbeats 4000000 in
theorem pm_km190 : pm_okM 190 1563 99 1561 1562 = true := by decide +kernel
set_option maxRecDepth 100000 in
set_option maxHeartbeats 4000000 in
theorem pm_ki190 : ((pm_p190.all fun q => pm_okI 190 (pm_p190.map Prod.fst) q.1 q.2) && (pm_p190.map Prod.fst).contains 0) = true := by decide +kernel
set_option maxRecDepth 100000 in
set_option maxHeartbeats 4000000 in
theorem pm_km191 : pm_okM 191 1567 99 1565 1566 = true := by decide +kernel
set_option maxRecDepth 100000 in
set_option maxHeartbeats 4000000 in
theorem pm_ki191 : ((pm_p191.all fun q => pm_okI 191 (pm_p191.map Prod.fst) q.1 q.2) && (pm_p191.map Prod.fst).contains 0) = true := by decide +kernel
set_option maxRecDepth 100000 in
set_option maxHeartbeats 4000000 in
theorem pm_km192 : pm_okM 192 1571 99 1569 1570 = true := by decide +kernel
set_option maxRecDepth 100000 in
set_option maxHeartbeats 4000000 in
theorem pm_ki192 : ((pm_p192.all fun q => pm_okI 192 (pm_p192.map Prod.fst) q.1 q.2) && (pm_p192.map Prod.fst).contains 0) = true := by decide +kernel
set_option maxRecDepth 100000 in
set_option maxHeartbeats 4000000 in
theorem pm_km193 : pm_okM 193 1579 99 1578 85 = true := by decide +kernel
set_option maxRecDepth 100000 in
set_option maxHeartbeats 4000000 in
theorem pm_ki193 : ((pm_p193.all fun q => pm_okI 193 (pm_p193.map Prod.fst) q.1 q.2) && (pm_p193.map Prod.fst).contains 0) = true := by decide +kernel
set_option maxRecDepth 100000 in
set_option maxHeartbeats 4000000 in
theorem pm_km194 : pm_okM 194 1583 99 1582 86 = true := by decide +kernel
