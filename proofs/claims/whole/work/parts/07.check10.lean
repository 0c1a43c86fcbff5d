/-! checks, closed by the kernel (laid by wip/whole/gen_words.py) -/
set_option maxRecDepth 100000 in
set_option maxHeartbeats 4000000 in
theorem pm_ki240_15 : (((pm_p240.drop 600).take 40).all fun q => pm_okI 240 (pm_p240.map Prod.fst) q.1 q.2) = true := by decide +kernel
set_option maxRecDepth 100000 in
set_option maxHeartbeats 4000000 in
theorem pm_ki240_16 : (((pm_p240.drop 640).take 40).all fun q => pm_okI 240 (pm_p240.map Prod.fst) q.1 q.2) = true := by decide +kernel
set_option maxRecDepth 100000 in
set_option maxHeartbeats 4000000 in
theorem pm_ki240_17 : (((pm_p240.drop 680).take 40).all fun q => pm_okI 240 (pm_p240.map Prod.fst) q.1 q.2) = true := by decide +kernel
set_option maxRecDepth 100000 in
set_option maxHeartbeats 4000000 in
theorem pm_ki240_18 : (((pm_p240.drop 720).take 40).all fun q => pm_okI 240 (pm_p240.map Prod.fst) q.1 q.2) = true := by decide +kernel
set_option maxRecDepth 100000 in
set_option maxHeartbeats 4000000 in
theorem pm_ki240_19 : (((pm_p240.drop 760).take 40).all fun q => pm_okI 240 (pm_p240.map Prod.fst) q.1 q.2) = true := by decide +kernel
set_option maxRecDepth 100000 in
set_option maxHeartbeats 4000000 in
theorem pm_ki240_20 : (((pm_p240.drop 800).take 40).all fun q => pm_okI 240 (pm_p240.map Prod.fst) q.1 q.2) = true := by decide +kernel
set_option maxRecDepth 100000 in
set_option maxHeartbeats 4000000 in
theorem pm_ki240_21 : (((pm_p240.drop 840).take 40).all fun q => pm_okI 240 (pm_p240.map Prod.fst) q.1 q.2) = true := by decide +kernel
set_option maxRecDepth 100000 in
set_option maxHeartbeats 4000000 in
theorem pm_ki240_22 : (((pm_p240.drop 880).take 40).all fun q => pm_okI 240 (pm_p240.map Prod.fst) q.1 q.2) = true := by decide +kernel
set_option maxRecDepth 100000 in
set_option maxHeartbeats 4000000 in
theorem pm_ki240_23 : (((pm_p240.drop 920).take 40).all fun q => pm_okI 240 (pm_p240.map Prod.fst) q.1 q.2) = true := by decide +kernel
set_option maxRecDepth 100000 in
set_option maxHeartbeats 4000000 in
theorem pm_ki240_24 : (((pm_p240.drop 960).take 40).all fun q => pm_okI 240 (pm_p240.map Prod.fst) q.1 q.2) = true := by decide +kernel
set_option maxRecDepth 100000 in
set_option maxHeartbeats 4000000 in
theorem pm_ki240_25 : (((pm_p240.drop 1000).take 40).all fun q => pm_okI 240 (pm_p240.map Prod.fst) q.1 q.2) = true := by decide +kernel
set_option maxRecDepth 100000 in
set_option maxHeartbeats 4000000 in
theorem pm_ki240_26 : (((pm_p240.drop 1040).take 40).all fun q => pm_okI 240 (pm_p240.map Prod.fst) q.1 q.2) = true := by decide +kernel
set_option maxRecDepth 100000 in
set_option maxHeartbeats 4000000 in
theorem pm_ki240_27 : (((pm_p240.drop 1080).take 40).all fun q => pm_okI 240 (pm_p240.map Prod.fst) q.1 q.2) = true := by decide +kernel
set_option maxRecDepth 100000 in
set_option maxHeartbeats 4000000 in
theorem pm_ki240_28 : (((pm_p240.drop 1120).take 40).all fun q => pm_okI 240 (pm_p240.map Prod.fst) q.1 q.2) = true := by decide +kernel
set_option maxRecDepth 100000 in
set_option maxHeartbeats 4000000 in
theorem pm_ki240_29 : (((pm_p240.drop 1160).take 40).all fun q => pm_okI 240 (pm_p240.map Prod.fst) q.1 q.2) = true := by decide +kernel
set_option maxRecDepth 100000 in
set_option maxHeartbeats 4000000 in
theorem pm_ki240_30 : (((pm_p240.drop 1200).take 40).all fun q => pm_okI 240 (pm_p240.map Prod.fst) q.1 q.2) = true := by decide +kernel
set_option maxRecDepth 100000 in
set_option maxHeartbeats 4000000 in
theorem pm_ki240_31 : (((pm_p240.drop 1240).take 40).all fun q => pm_okI 240 (pm_p240.map Prod.fst) q.1 q.2) = true := by decide +kernel
set_option maxRecDepth 100000 in
set_option maxHeartbeats 4000000 in
theorem pm_ki240_32 : (((pm_p240.drop 1280).take 40).all fun q => pm_okI 240 (pm_p240.map Prod.fst) q.1 q.2) = true := by decide +kernel
set_option maxRecDepth 100000 in
set_option maxHeartbeats 4000000 in
theorem pm_ki240_33 : (((pm_p240.drop 1320).take 40).all fun q => pm_okI 240 (pm_p240.map Prod.fst) q.1 q.2) = true := by decide +kernel
set_option maxRecDepth 100000 in
set_option maxHeartbeats 4000000 in
theorem pm_ki240_34 : (((pm_p240.drop 1360).take 40).all fun q => pm_okI 240 (pm_p240.map Prod.fst) q.1 q.2) = true := by decide +kernel
set_option maxRecDepth 100000 in
set_option maxHeartbeats 4000000 in
theorem pm_ki240_35 : (((pm_p240.drop 1400).take 40).all fun q => pm_okI 240 (pm_p240.map Prod.fst) q.1 q.2) = true := by decide +kernel
set_option maxRecDepth 100000 in
set_option maxHeartbeats 4000000 in
theorem pm_ki240_36 : (((pm_p240.drop 1440).take 40).all fun q => pm_okI 240 (pm_p240.map Prod.fst) q.1 q.2) = true := by decide +kernel
