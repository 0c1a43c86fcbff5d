/-! checks, closed by the kernel (laid by wip/whole/gen_words.py) -/
set_option maxRecDepth 100000 in
set_option maxHeartbeats 4000000 in
theorem pm_km20 : pm_okM 20 1097 93 1096 57 = true := by decide +kernel
set_option maxRecDepth 100000 in
set_option maxHeartbeats 4000000 in
theorem pm_ki20 : ((pm_p20.all fun q => pm_okI 20 (pm_p20.map Prod.fst) q.1 q.2) && (pm_p20.map Prod.fst).contains 0) = true := by decide +kernel
set_option maxRecDepth 100000 in
set_option maxHeartbeats 4000000 in
theorem pm_km21 : pm_okM 21 185 94 184 0 = true := by decide +kernel
set_option maxRecDepth 100000 in
set_option maxHeartbeats 4000000 in
theorem pm_ki21 : ((pm_p21.all fun q => pm_okI 21 (pm_p21.map Prod.fst) q.1 q.2) && (pm_p21.map Prod.fst).contains 0) = true := by decide +kernel
set_option maxRecDepth 100000 in
set_option maxHeartbeats 4000000 in
theorem pm_km22 : pm_okM 22 856 94 855 38 = true := by decide +kernel
set_option maxRecDepth 100000 in
set_option maxHeartbeats 4000000 in
theorem pm_ki22 : ((pm_p22.all fun q => pm_okI 22 (pm_p22.map Prod.fst) q.1 q.2) && (pm_p22.map Prod.fst).contains 0) = true := by decide +kernel
set_option maxRecDepth 100000 in
set_option maxHeartbeats 4000000 in
theorem pm_km23 : pm_okM 23 272 97 271 0 = true := by decide +kernel
set_option maxRecDepth 100000 in
set_option maxHeartbeats 4000000 in
theorem pm_ki23 : ((pm_p23.all fun q => pm_okI 23 (pm_p23.map Prod.fst) q.1 q.2) && (pm_p23.map Prod.fst).contains 0) = true := by decide +kernel
set_option maxRecDepth 100000 in
set_option maxHeartbeats 4000000 in
theorem pm_km24 : pm_okM 24 436 97 435 12 = true := by decide +kernel
set_option maxRecDepth 100000 in
set_option maxHeartbeats 4000000 in
theorem pm_ki24 : ((pm_p24.all fun q => pm_okI 24 (pm_p24.map Prod.fst) q.1 q.2) && (pm_p24.map Prod.fst).contains 0) = true := by decide +kernel
set_option maxRecDepth 100000 in
set_option maxHeartbeats 4000000 in
theorem pm_km25 : pm_okM 25 445 97 444 13 = true := by decide +kernel
set_option maxRecDepth 100000 in
set_option maxHeartbeats 4000000 in
theorem pm_ki25 : ((pm_p25.all fun q => pm_okI 25 (pm_p25.map Prod.fst) q.1 q.2) && (pm_p25.map Prod.fst).contains 0) = true := by decide +kernel
set_option maxRecDepth 100000 in
set_option maxHeartbeats 4000000 in
theorem pm_km26 : pm_okM 26 915 97 914 43 = true := by decide +kernel
set_option maxRecDepth 100000 in
set_option maxHeartbeats 4000000 in
theorem pm_ki26 : ((pm_p26.all fun q => pm_okI 26 (pm_p26.map Prod.fst) q.1 q.2) && (pm_p26.map Prod.fst).contains 0) = true := by decide +kernel
set_option maxRecDepth 100000 in
set_option maxHeartbeats 4000000 in
theorem pm_km27 : pm_okM 27 449 97 448 14 = true := by decide +kernel
set_option maxRecDepth 100000 in
set_option maxHeartbeats 4000000 in
theorem pm_ki27 : ((pm_p27.all fun q => pm_okI 27 (pm_p27.map Prod.fst) q.1 q.2) && (pm_p27.map Prod.fst).contains 0) = true := by decide +kernel
set_option maxRecDepth 100000 in
set_option maxHeartbeats 4000000 in
theorem pm_km28 : pm_okM 28 431 97 430 11 = true := by decide +kernel
set_option maxRecDepth 100000 in
set_option maxHeartbeats 4000000 in
theorem pm_ki28 : ((pm_p28.all fun q => pm_okI 28 (pm_p28.map Prod.fst) q.1 q.2) && (pm_p28.map Prod.fst).contains 0) = true := by decide +kernel
set_option maxRecDepth 100000 in
set_option maxHeartbeats 4000000 in
theorem pm_km29 : pm_okM 29 939 97 938 45 = true := by decide +kernel
set_option maxRecDepth 100000 in
set_option maxHeartbeats 4000000 in
theorem pm_ki29 : ((pm_p29.all fun q => pm_okI 29 (pm_p29.map Prod.fst) q.1 q.2) && (pm_p29.map Prod.fst).contains 0) = true := by decide +kernel
set_option maxRecDepth 100000 in
set_option maxHeartbeats 4000000 in
theorem pm_km30 : pm_okM 30 457 97 456 15 = true := by decide +kernel
set_option maxRecDepth 100000 in
set_option maxHeartbeats 4000000 in
theorem pm_ki30 : ((pm_p30.all fun q => pm_okI 30 (pm_p30.map Prod.fst) q.1 q.2) && (pm_p30.map Prod.fst).contains 0) = true := by decide +kernel
set_option maxRecDepth 100000 in
set_option maxHeartbeats 4000000 in
theorem pm_km31 : pm_okM 31 461 97 460 16 = true := by decide +kernel
set_option maxRecDepth 100000 in
set_option maxHeartbeats 4000000 in
theorem pm_ki31 : ((pm_p31.all fun q => pm_okI 31 (pm_p31.map Prod.fst) q.1 q.2) && (pm_p31.map Prod.fst).contains 0) = true := by decide +kernel
set_option maxRecDepth 100000 in
set_option maxHeartbeats 4000000 in
theorem pm_km32 : pm_okM 32 977 97 976 48 = true := by decide +kernel
set_option maxRecDepth 100000 in
set_option maxHeartbeats 4000000 in
theorem pm_ki32 : ((pm_p32.all fun q => pm_okI 32 (pm_p32.map Prod.fst) q.1 q.2) && (pm_p32.map Prod.fst).contains 0) = true := by decide +kernel
set_option maxRecDepth 100000 in
set_option maxHeartbeats 4000000 in
theorem pm_km33 : pm_okM 33 288 98 287 0 = true := by decide +kernel
set_option maxRecDepth 100000 in
set_option maxHeartbeats 4000000 in
theorem pm_ki33 : ((pm_p33.all fun q => pm_okI 33 (pm_p33.map Prod.fst) q.1 q.2) && (pm_p33.map Prod.fst).contains 0) = true := by decide +kernel
set_option maxRecDepth 100000 in
set_option maxHeartbeats 4000000 in
theorem pm_km34 : pm_okM 34 812 98 811 37 = true := by decide +kernel
set_option maxRecDepth 100000 in
set_option maxHeartbeats 4000000 in
theorem pm_ki34 : ((pm_p34.all fun q => pm_okI 34 (pm_p34.map Prod.fst) q.1 q.2) && (pm_p34.map Prod.fst).contains 0) = true := by decide +kernel
set_option maxRecDepth 100000 in
set_option maxHeartbeats 4000000 in
theorem pm_km35 : pm_okM 35 131 92 130 0 = true := by decide +kernel
set_option maxRecDepth 100000 in
set_option maxHeartbeats 4000000 in
theorem pm_ki35 : ((pm_p35.all fun q => pm_okI 35 (pm_p35.map Prod.fst) q.1 q.2) && (pm_p35.map Prod.fst).contains 0) = true := by decide +kernel
set_option maxRecDepth 100000 in
set_option maxHeartbeats 4000000 in
theorem pm_km36 : pm_okM 36 384 92 383 4 = true := by decide +kernel
set_option maxRecDepth 100000 in
set_option maxHeartbeats 4000000 in
theorem pm_ki36 : ((pm_p36.all fun q => pm_okI 36 (pm_p36.map Prod.fst) q.1 q.2) && (pm_p36.map Prod.fst).contains 0) = true := by decide +kernel
set_option maxRecDepth 100000 in
set_option maxHeartbeats 4000000 in
theorem pm_km37 : pm_okM 37 380 92 379 3 = true := by decide +kernel
set_option maxRecDepth 100000 in
set_option maxHeartbeats 4000000 in
theorem pm_ki37 : ((pm_p37.all fun q => pm_okI 37 (pm_p37.map Prod.fst) q.1 q.2) && (pm_p37.map Prod.fst).contains 0) = true := by decide +kernel
set_option maxRecDepth 100000 in
set_option maxHeartbeats 4000000 in
theorem pm_km38 : pm_okM 38 1008 92 1007 52 = true := by decide +kernel
set_option maxRecDepth 100000 in
set_option maxHeartbeats 4000000 in
theorem pm_ki38 : ((pm_p38.all fun q => pm_okI 38 (pm_p38.map Prod.fst) q.1 q.2) && (pm_p38.map Prod.fst).contains 0) = true := by decide +kernel
set_option maxRecDepth 100000 in
set_option maxHeartbeats 4000000 in
theorem pm_km39 : pm_okM 39 392 92 391 6 = true := by decide +kernel
set_option maxRecDepth 100000 in
set_option maxHeartbeats 4000000 in
theorem pm_ki39 : ((pm_p39.all fun q => pm_okI 39 (pm_p39.map Prod.fst) q.1 q.2) && (pm_p39.map Prod.fst).contains 0) = true := by decide +kernel
set_option maxRecDepth 100000 in
set_option maxHeartbeats 4000000 in
theorem pm_km40 : pm_okM 40 1016 92 1015 54 = true := by decide +kernel
set_option maxRecDepth 100000 in
set_option maxHeartbeats 4000000 in
theorem pm_ki40 : ((pm_p40.all fun q => pm_okI 40 (pm_p40.map Prod.fst) q.1 q.2) && (pm_p40.map Prod.fst).contains 0) = true := by decide +kernel
set_option maxRecDepth 100000 in
set_option maxHeartbeats 4000000 in
theorem pm_km41 : pm_okM 41 352 92 351 0 = true := by decide +kernel
set_option maxRecDepth 100000 in
set_option maxHeartbeats 4000000 in
theorem pm_ki41 : ((pm_p41.all fun q => pm_okI 41 (pm_p41.map Prod.fst) q.1 q.2) && (pm_p41.map Prod.fst).contains 0) = true := by decide +kernel
set_option maxRecDepth 100000 in
set_option maxHeartbeats 4000000 in
theorem pm_km42 : pm_okM 42 404 92 403 9 = true := by decide +kernel
set_option maxRecDepth 100000 in
set_option maxHeartbeats 4000000 in
theorem pm_ki42 : ((pm_p42.all fun q => pm_okI 42 (pm_p42.map Prod.fst) q.1 q.2) && (pm_p42.map Prod.fst).contains 0) = true := by decide +kernel
set_option maxRecDepth 100000 in
set_option maxHeartbeats 4000000 in
theorem pm_km43 : pm_okM 43 997 92 996 50 = true := by decide +kernel
set_option maxRecDepth 100000 in
set_option maxHeartbeats 4000000 in
theorem pm_ki43 : ((pm_p43.all fun q => pm_okI 43 (pm_p43.map Prod.fst) q.1 q.2) && (pm_p43.map Prod.fst).contains 0) = true := by decide +kernel
set_option maxRecDepth 100000 in
set_option maxHeartbeats 4000000 in
theorem pm_km44 : pm_okM 44 415 92 414 10 = true := by decide +kernel
set_option maxRecDepth 100000 in
set_option maxHeartbeats 4000000 in
theorem pm_ki44 : ((pm_p44.all fun q => pm_okI 44 (pm_p44.map Prod.fst) q.1 q.2) && (pm_p44.map Prod.fst).contains 0) = true := by decide +kernel
set_option maxRecDepth 100000 in
set_option maxHeartbeats 4000000 in
theorem pm_km45 : pm_okM 45 375 92 374 2 = true := by decide +kernel
set_option maxRecDepth 100000 in
set_option maxHeartbeats 4000000 in
theorem pm_ki45 : ((pm_p45.all fun q => pm_okI 45 (pm_p45.map Prod.fst) q.1 q.2) && (pm_p45.map Prod.fst).contains 0) = true := by decide +kernel
set_option maxRecDepth 100000 in
set_option maxHeartbeats 4000000 in
theorem pm_km46 : pm_okM 46 634 92 633 20 = true := by decide +kernel
set_option maxRecDepth 100000 in
set_option maxHeartbeats 4000000 in
theorem pm_ki46 : ((pm_p46.all fun q => pm_okI 46 (pm_p46.map Prod.fst) q.1 q.2) && (pm_p46.map Prod.fst).contains 0) = true := by decide +kernel
