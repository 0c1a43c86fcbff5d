/-! checks, closed by the kernel (laid by wip/whole/gen_words.py) -/
set_option maxRecDepth 100000 in
set_option maxHeartbeats 4000000 in
theorem pm_ki241_14 : (((pm_p241.drop 560).take 40).all fun q => pm_okI 241 (pm_p241.map Prod.fst) q.1 q.2) = true := by decide +kernel
set_option maxRecDepth 100000 in
set_option maxHeartbeats 4000000 in
theorem pm_ki241_15 : (((pm_p241.drop 600).take 40).all fun q => pm_okI 241 (pm_p241.map Prod.fst) q.1 q.2) = true := by decide +kernel
set_option maxRecDepth 100000 in
set_option maxHeartbeats 4000000 in
theorem pm_ki241_16 : (((pm_p241.drop 640).take 40).all fun q => pm_okI 241 (pm_p241.map Prod.fst) q.1 q.2) = true := by decide +kernel
set_option maxRecDepth 100000 in
set_option maxHeartbeats 4000000 in
theorem pm_ki241_17 : (((pm_p241.drop 680).take 40).all fun q => pm_okI 241 (pm_p241.map Prod.fst) q.1 q.2) = true := by decide +kernel
set_option maxRecDepth 100000 in
set_option maxHeartbeats 4000000 in
theorem pm_ki241_18 : (((pm_p241.drop 720).take 40).all fun q => pm_okI 241 (pm_p241.map Prod.fst) q.1 q.2) = true := by decide +kernel
set_option maxRecDepth 100000 in
set_option maxHeartbeats 4000000 in
theorem pm_ki241_19 : (((pm_p241.drop 760).take 40).all fun q => pm_okI 241 (pm_p241.map Prod.fst) q.1 q.2) = true := by decide +kernel
set_option maxRecDepth 100000 in
set_option maxHeartbeats 4000000 in
theorem pm_ki241_20 : (((pm_p241.drop 800).take 40).all fun q => pm_okI 241 (pm_p241.map Prod.fst) q.1 q.2) = true := by decide +kernel
set_option maxRecDepth 100000 in
set_option maxHeartbeats 4000000 in
theorem pm_ki241_21 : (((pm_p241.drop 840).take 40).all fun q => pm_okI 241 (pm_p241.map Prod.fst) q.1 q.2) = true := by decide +kernel
set_option maxRecDepth 100000 in
set_option maxHeartbeats 4000000 in
theorem pm_ki241_22 : (((pm_p241.drop 880).take 40).all fun q => pm_okI 241 (pm_p241.map Prod.fst) q.1 q.2) = true := by decide +kernel
set_option maxRecDepth 100000 in
set_option maxHeartbeats 4000000 in
theorem pm_ki241_23 : (((pm_p241.drop 920).take 40).all fun q => pm_okI 241 (pm_p241.map Prod.fst) q.1 q.2) = true := by decide +kernel
set_option maxRecDepth 100000 in
set_option maxHeartbeats 4000000 in
theorem pm_ki241_24 : (((pm_p241.drop 960).take 40).all fun q => pm_okI 241 (pm_p241.map Prod.fst) q.1 q.2) = true := by decide +kernel
set_option maxRecDepth 100000 in
set_option maxHeartbeats 4000000 in
theorem pm_ki241_25 : (((pm_p241.drop 1000).take 40).all fun q => pm_okI 241 (pm_p241.map Prod.fst) q.1 q.2) = true := by decide +kernel
set_option maxRecDepth 100000 in
set_option maxHeartbeats 4000000 in
theorem pm_ki241_26 : (((pm_p241.drop 1040).take 40).all fun q => pm_okI 241 (pm_p241.map Prod.fst) q.1 q.2) = true := by decide +kernel
set_option maxRecDepth 100000 in
set_option maxHeartbeats 4000000 in
theorem pm_ki241_27 : (((pm_p241.drop 1080).take 40).all fun q => pm_okI 241 (pm_p241.map Prod.fst) q.1 q.2) = true := by decide +kernel
set_option maxRecDepth 100000 in
set_option maxHeartbeats 4000000 in
theorem pm_ki241_28 : (((pm_p241.drop 1120).take 40).all fun q => pm_okI 241 (pm_p241.map Prod.fst) q.1 q.2) = true := by decide +kernel
set_option maxRecDepth 100000 in
set_option maxHeartbeats 4000000 in
theorem pm_ki241_29 : (((pm_p241.drop 1160).take 40).all fun q => pm_okI 241 (pm_p241.map Prod.fst) q.1 q.2) = true := by decide +kernel
set_option maxRecDepth 100000 in
set_option maxHeartbeats 4000000 in
theorem pm_ki241_30 : (((pm_p241.drop 1200).take 40).all fun q => pm_okI 241 (pm_p241.map Prod.fst) q.1 q.2) = true := by decide +kernel
set_option maxRecDepth 100000 in
set_option maxHeartbeats 4000000 in
theorem pm_ki241_31 : (((pm_p241.drop 1240).take 40).all fun q => pm_okI 241 (pm_p241.map Prod.fst) q.1 q.2) = true := by decide +kernel
set_option maxRecDepth 100000 in
set_option maxHeartbeats 4000000 in
theorem pm_ki241_32 : (((pm_p241.drop 1280).take 40).all fun q => pm_okI 241 (pm_p241.map Prod.fst) q.1 q.2) = true := by decide +kernel
set_option maxRecDepth 100000 in
set_option maxHeartbeats 4000000 in
theorem pm_ki241_33 : (((pm_p241.drop 1320).take 40).all fun q => pm_okI 241 (pm_p241.map Prod.fst) q.1 q.2) = true := by decide +kernel
set_option maxRecDepth 100000 in
set_option maxHeartbeats 4000000 in
theorem pm_ki241_34 : (((pm_p241.drop 1360).take 40).all fun q => pm_okI 241 (pm_p241.map Prod.fst) q.1 q.2) = true := by decide +kernel
set_option maxRecDepth 100000 in
set_option maxHeartbeats 4000000 in
theorem pm_ki241_35 : (((pm_p241.drop 1400).take 40).all fun q => pm_okI 241 (pm_p241.map Prod.fst) q.1 q.2) = true := by decide +kernel
set_option maxRecDepth 100000 in
set_option maxHeartbeats 4000000 in
theorem pm_ki241_36 : (((pm_p241.drop 1440).take 40).all fun q => pm_okI 241 (pm_p241.map Prod.fst) q.1 q.2) = true := by decide +kernel
