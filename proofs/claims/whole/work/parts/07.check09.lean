/-! checks, closed by the kernel (laid by wip/whole/gen_words.py) -/
set_option maxRecDepth 100000 in
set_option maxHeartbeats 4000000 in
theorem pm_km224 : pm_okM 224 918 89 917 0 = true := by decide +kernel
set_option maxRecDepth 100000 in
set_option maxHeartbeats 4000000 in
theorem pm_ki224 : ((pm_p224.all fun q => pm_okI 224 (pm_p224.map Prod.fst) q.1 q.2) && (pm_p224.map Prod.fst).contains 0) = true := by decide +kernel
set_option maxRecDepth 100000 in
set_option maxHeartbeats 4000000 in
theorem pm_km225 : pm_okM 225 931 89 930 0 = true := by decide +kernel
set_option maxRecDepth 100000 in
set_option maxHeartbeats 4000000 in
theorem pm_ki225 : ((pm_p225.all fun q => pm_okI 225 (pm_p225.map Prod.fst) q.1 q.2) && (pm_p225.map Prod.fst).contains 0) = true := by decide +kernel
set_option maxRecDepth 100000 in
set_option maxHeartbeats 4000000 in
theorem pm_km226 : pm_okM 226 943 89 942 0 = true := by decide +kernel
set_option maxRecDepth 100000 in
set_option maxHeartbeats 4000000 in
theorem pm_ki226 : ((pm_p226.all fun q => pm_okI 226 (pm_p226.map Prod.fst) q.1 q.2) && (pm_p226.map Prod.fst).contains 0) = true := by decide +kernel
set_option maxRecDepth 100000 in
set_option maxHeartbeats 4000000 in
theorem pm_km227 : pm_okM 227 956 89 955 0 = true := by decide +kernel
set_option maxRecDepth 100000 in
set_option maxHeartbeats 4000000 in
theorem pm_ki227 : ((pm_p227.all fun q => pm_okI 227 (pm_p227.map Prod.fst) q.1 q.2) && (pm_p227.map Prod.fst).contains 0) = true := by decide +kernel
set_option maxRecDepth 100000 in
set_option maxHeartbeats 4000000 in
theorem pm_km228 : pm_okM 228 968 89 967 0 = true := by decide +kernel
set_option maxRecDepth 100000 in
set_option maxHeartbeats 4000000 in
theorem pm_ki228 : ((pm_p228.all fun q => pm_okI 228 (pm_p228.map Prod.fst) q.1 q.2) && (pm_p228.map Prod.fst).contains 0) = true := by decide +kernel
set_option maxRecDepth 100000 in
set_option maxHeartbeats 4000000 in
theorem pm_km229 : pm_okM 229 980 89 979 0 = true := by decide +kernel
set_option maxRecDepth 100000 in
set_option maxHeartbeats 4000000 in
theorem pm_ki229 : ((pm_p229.all fun q => pm_okI 229 (pm_p229.map Prod.fst) q.1 q.2) && (pm_p229.map Prod.fst).contains 0) = true := by decide +kernel
set_option maxRecDepth 100000 in
set_option maxHeartbeats 4000000 in
theorem pm_km230 : pm_okM 230 1037 89 1036 0 = true := by decide +kernel
set_option maxRecDepth 100000 in
set_option maxHeartbeats 4000000 in
theorem pm_ki230 : ((pm_p230.all fun q => pm_okI 230 (pm_p230.map Prod.fst) q.1 q.2) && (pm_p230.map Prod.fst).contains 0) = true := by decide +kernel
set_option maxRecDepth 100000 in
set_option maxHeartbeats 4000000 in
theorem pm_km231 : pm_okM 231 1055 89 1054 0 = true := by decide +kernel
set_option maxRecDepth 100000 in
set_option maxHeartbeats 4000000 in
theorem pm_ki231 : ((pm_p231.all fun q => pm_okI 231 (pm_p231.map Prod.fst) q.1 q.2) && (pm_p231.map Prod.fst).contains 0) = true := by decide +kernel
set_option maxRecDepth 100000 in
set_option maxHeartbeats 4000000 in
theorem pm_km232 : pm_okM 232 1066 89 1065 0 = true := by decide +kernel
set_option maxRecDepth 100000 in
set_option maxHeartbeats 4000000 in
theorem pm_ki232 : ((pm_p232.all fun q => pm_okI 232 (pm_p232.map Prod.fst) q.1 q.2) && (pm_p232.map Prod.fst).contains 0) = true := by decide +kernel
set_option maxRecDepth 100000 in
set_option maxHeartbeats 4000000 in
theorem pm_km233 : pm_okM 233 1074 89 1073 0 = true := by decide +kernel
set_option maxRecDepth 100000 in
set_option maxHeartbeats 4000000 in
theorem pm_ki233 : ((pm_p233.all fun q => pm_okI 233 (pm_p233.map Prod.fst) q.1 q.2) && (pm_p233.map Prod.fst).contains 0) = true := by decide +kernel
set_option maxRecDepth 100000 in
set_option maxHeartbeats 4000000 in
theorem pm_km234 : pm_okM 234 1082 89 1081 0 = true := by decide +kernel
set_option maxRecDepth 100000 in
set_option maxHeartbeats 4000000 in
theorem pm_ki234 : ((pm_p234.all fun q => pm_okI 234 (pm_p234.map Prod.fst) q.1 q.2) && (pm_p234.map Prod.fst).contains 0) = true := by decide +kernel
set_option maxRecDepth 100000 in
set_option maxHeartbeats 4000000 in
theorem pm_km235 : pm_okM 235 1089 89 1088 0 = true := by decide +kernel
set_option maxRecDepth 100000 in
set_option maxHeartbeats 4000000 in
theorem pm_ki235 : ((pm_p235.all fun q => pm_okI 235 (pm_p235.map Prod.fst) q.1 q.2) && (pm_p235.map Prod.fst).contains 0) = true := by decide +kernel
set_option maxRecDepth 100000 in
set_option maxHeartbeats 4000000 in
theorem pm_km236 : pm_okM 236 1103 89 1102 0 = true := by decide +kernel
set_option maxRecDepth 100000 in
set_option maxHeartbeats 4000000 in
theorem pm_ki236 : ((pm_p236.all fun q => pm_okI 236 (pm_p236.map Prod.fst) q.1 q.2) && (pm_p236.map Prod.fst).contains 0) = true := by decide +kernel
set_option maxRecDepth 100000 in
set_option maxHeartbeats 4000000 in
theorem pm_km237 : pm_okM 237 1112 89 1111 0 = true := by decide +kernel
set_option maxRecDepth 100000 in
set_option maxHeartbeats 4000000 in
theorem pm_ki237 : ((pm_p237.all fun q => pm_okI 237 (pm_p237.map Prod.fst) q.1 q.2) && (pm_p237.map Prod.fst).contains 0) = true := by decide +kernel
set_option maxRecDepth 100000 in
set_option maxHeartbeats 4000000 in
theorem pm_km238 : pm_okM 238 1141 89 1140 0 = true := by decide +kernel
set_option maxRecDepth 100000 in
set_option maxHeartbeats 4000000 in
theorem pm_ki238 : ((pm_p238.all fun q => pm_okI 238 (pm_p238.map Prod.fst) q.1 q.2) && (pm_p238.map Prod.fst).contains 0) = true := by decide +kernel
set_option maxRecDepth 100000 in
set_option maxHeartbeats 4000000 in
theorem pm_km239 : pm_okM 239 1148 89 1147 0 = true := by decide +kernel
set_option maxRecDepth 100000 in
set_option maxHeartbeats 4000000 in
theorem pm_ki239 : ((pm_p239.all fun q => pm_okI 239 (pm_p239.map Prod.fst) q.1 q.2) && (pm_p239.map Prod.fst).contains 0) = true := by decide +kernel
set_option maxRecDepth 100000 in
set_option maxHeartbeats 4000000 in
theorem pm_km240 : pm_okM 240 663 95 662 25 = true := by decide +kernel
set_option maxRecDepth 100000 in
set_option maxHeartbeats 4000000 in
theorem pm_ki240 : ((pm_p240.all fun q => pm_okI 240 (pm_p240.map Prod.fst) q.1 q.2) && (pm_p240.map Prod.fst).contains 0) = true := by decide +kernel
set_option maxRecDepth 100000 in
set_option maxHeartbeats 4000000 in
theorem pm_ki241_0 : (((pm_p241.drop 0).take 40).all fun q => pm_okI 241 (pm_p241.map Prod.fst) q.1 q.2) = true := by decide +kernel
set_option maxRecDepth 100000 in
set_option maxHeartbeats 4000000 in
theorem pm_ki241_1 : (((pm_p241.drop 40).take 40).all fun q => pm_okI 241 (pm_p241.map Prod.fst) q.1 q.2) = true := by decide +kernel
set_option maxRecDepth 100000 in
set_option maxHeartbeats 4000000 in
theorem pm_ki241_2 : (((pm_p241.drop 80).take 40).all fun q => pm_okI 241 (pm_p241.map Prod.fst) q.1 q.2) = true := by decide +kernel
set_option maxRecDepth 100000 in
set_option maxHeartbeats 4000000 in
theorem pm_ki241_3 : (((pm_p241.drop 120).take 40).all fun q => pm_okI 241 (pm_p241.map Prod.fst) q.1 q.2) = true := by decide +kernel
set_option maxRecDepth 100000 in
set_option maxHeartbeats 4000000 in
theorem pm_ki241_4 : (((pm_p241.drop 160).take 40).all fun q => pm_okI 241 (pm_p241.map Prod.fst) q.1 q.2) = true := by decide +kernel
set_option maxRecDepth 100000 in
set_option maxHeartbeats 4000000 in
theorem pm_ki241_5 : (((pm_p241.drop 200).take 40).all fun q => pm_okI 241 (pm_p241.map Prod.fst) q.1 q.2) = true := by decide +kernel
set_option maxRecDepth 100000 in
set_option maxHeartbeats 4000000 in
theorem pm_ki241_6 : (((pm_p241.drop 240).take 40).all fun q => pm_okI 241 (pm_p241.map Prod.fst) q.1 q.2) = true := by decide +kernel
set_option maxRecDepth 100000 in
set_option maxHeartbeats 4000000 in
theorem pm_ki241_7 : (((pm_p241.drop 280).take 40).all fun q => pm_okI 241 (pm_p241.map Prod.fst) q.1 q.2) = true := by decide +kernel
set_option maxRecDepth 100000 in
set_option maxHeartbeats 4000000 in
theorem pm_ki241_8 : (((pm_p241.drop 320).take 40).all fun q => pm_okI 241 (pm_p241.map Prod.fst) q.1 q.2) = true := by decide +kernel
set_option maxRecDepth 100000 in
set_option maxHeartbeats 4000000 in
theorem pm_ki241_9 : (((pm_p241.drop 360).take 40).all fun q => pm_okI 241 (pm_p241.map Prod.fst) q.1 q.2) = true := by decide +kernel
set_option maxRecDepth 100000 in
set_option maxHeartbeats 4000000 in
theorem pm_ki241_10 : (((pm_p241.drop 400).take 40).all fun q => pm_okI 241 (pm_p241.map Prod.fst) q.1 q.2) = true := by decide +kernel
set_option maxRecDepth 100000 in
set_option maxHeartbeats 4000000 in
theorem pm_ki241_11 : (((pm_p241.drop 440).take 40).all fun q => pm_okI 241 (pm_p241.map Prod.fst) q.1 q.2) = true := by decide +kernel
set_option maxRecDepth 100000 in
set_option maxHeartbeats 4000000 in
theorem pm_ki241_12 : (((pm_p241.drop 480).take 40).all fun q => pm_okI 241 (pm_p241.map Prod.fst) q.1 q.2) = true := by decide +kernel
set_option maxRecDepth 100000 in
set_option maxHeartbeats 4000000 in
theorem pm_ki241_13 : (((pm_p241.drop 520).take 40).all fun q => pm_okI 241 (pm_p241.map Prod.fst) q.1 q.2) = true := by decide +kernel
