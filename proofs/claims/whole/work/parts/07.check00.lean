/-! checks, closed by the kernel (laid by wip/whole/gen_words.py) -/
set_option maxRecDepth 100000 in
set_option maxHeartbeats 4000000 in
theorem pm_km0 : pm_okM 0 125 91 124 0 = true := by decide +kernel
set_option maxRecDepth 100000 in
set_option maxHeartbeats 4000000 in
theorem pm_ki0 : ((pm_p0.all fun q => pm_okI 0 (pm_p0.map Prod.fst) q.1 q.2) && (pm_p0.map Prod.fst).contains 0) = true := by decide +kernel
set_option maxRecDepth 100000 in
set_option maxHeartbeats 4000000 in
theorem pm_km1 : pm_okM 1 469 91 468 17 = true := by decide +kernel
set_option maxRecDepth 100000 in
set_option maxHeartbeats 4000000 in
theorem pm_ki1 : ((pm_p1.all fun q => pm_okI 1 (pm_p1.map Prod.fst) q.1 q.2) && (pm_p1.map Prod.fst).contains 0) = true := by decide +kernel
set_option maxRecDepth 100000 in
set_option maxHeartbeats 4000000 in
theorem pm_km2 : pm_okM 2 203 95 202 0 = true := by decide +kernel
set_option maxRecDepth 100000 in
set_option maxHeartbeats 4000000 in
theorem pm_ki2 : ((pm_p2.all fun q => pm_okI 2 (pm_p2.map Prod.fst) q.1 q.2) && (pm_p2.map Prod.fst).contains 0) = true := by decide +kernel
set_option maxRecDepth 100000 in
set_option maxHeartbeats 4000000 in
theorem pm_km3 : pm_okM 3 654 95 653 23 = true := by decide +kernel
set_option maxRecDepth 100000 in
set_option maxHeartbeats 4000000 in
theorem pm_ki3 : ((pm_p3.all fun q => pm_okI 3 (pm_p3.map Prod.fst) q.1 q.2) && (pm_p3.map Prod.fst).contains 0) = true := by decide +kernel
set_option maxRecDepth 100000 in
set_option maxHeartbeats 4000000 in
theorem pm_km4 : pm_okM 4 667 95 666 26 = true := by decide +kernel
set_option maxRecDepth 100000 in
set_option maxHeartbeats 4000000 in
theorem pm_ki4 : ((pm_p4.all fun q => pm_okI 4 (pm_p4.map Prod.fst) q.1 q.2) && (pm_p4.map Prod.fst).contains 0) = true := by decide +kernel
set_option maxRecDepth 100000 in
set_option maxHeartbeats 4000000 in
theorem pm_km5 : pm_okM 5 671 95 670 27 = true := by decide +kernel
set_option maxRecDepth 100000 in
set_option maxHeartbeats 4000000 in
theorem pm_ki5 : ((pm_p5.all fun q => pm_okI 5 (pm_p5.map Prod.fst) q.1 q.2) && (pm_p5.map Prod.fst).contains 0) = true := by decide +kernel
set_option maxRecDepth 100000 in
set_option maxHeartbeats 4000000 in
theorem pm_km6 : pm_okM 6 675 95 674 28 = true := by decide +kernel
set_option maxRecDepth 100000 in
set_option maxHeartbeats 4000000 in
theorem pm_ki6 : ((pm_p6.all fun q => pm_okI 6 (pm_p6.map Prod.fst) q.1 q.2) && (pm_p6.map Prod.fst).contains 0) = true := by decide +kernel
set_option maxRecDepth 100000 in
set_option maxHeartbeats 4000000 in
theorem pm_km7 : pm_okM 7 679 95 678 29 = true := by decide +kernel
set_option maxRecDepth 100000 in
set_option maxHeartbeats 4000000 in
theorem pm_ki7 : ((pm_p7.all fun q => pm_okI 7 (pm_p7.map Prod.fst) q.1 q.2) && (pm_p7.map Prod.fst).contains 0) = true := by decide +kernel
set_option maxRecDepth 100000 in
set_option maxHeartbeats 4000000 in
theorem pm_km8 : pm_okM 8 890 95 889 40 = true := by decide +kernel
set_option maxRecDepth 100000 in
set_option maxHeartbeats 4000000 in
theorem pm_ki8 : ((pm_p8.all fun q => pm_okI 8 (pm_p8.map Prod.fst) q.1 q.2) && (pm_p8.map Prod.fst).contains 0) = true := by decide +kernel
set_option maxRecDepth 100000 in
set_option maxHeartbeats 4000000 in
theorem pm_km9 : pm_okM 9 683 95 682 30 = true := by decide +kernel
set_option maxRecDepth 100000 in
set_option maxHeartbeats 4000000 in
theorem pm_ki9 : ((pm_p9.all fun q => pm_okI 9 (pm_p9.map Prod.fst) q.1 q.2) && (pm_p9.map Prod.fst).contains 0) = true := by decide +kernel
set_option maxRecDepth 100000 in
set_option maxHeartbeats 4000000 in
theorem pm_km10 : pm_okM 10 687 95 686 31 = true := by decide +kernel
set_option maxRecDepth 100000 in
set_option maxHeartbeats 4000000 in
theorem pm_ki10 : ((pm_p10.all fun q => pm_okI 10 (pm_p10.map Prod.fst) q.1 q.2) && (pm_p10.map Prod.fst).contains 0) = true := by decide +kernel
set_option maxRecDepth 100000 in
set_option maxHeartbeats 4000000 in
theorem pm_km11 : pm_okM 11 894 95 893 41 = true := by decide +kernel
set_option maxRecDepth 100000 in
set_option maxHeartbeats 4000000 in
theorem pm_ki11 : ((pm_p11.all fun q => pm_okI 11 (pm_p11.map Prod.fst) q.1 q.2) && (pm_p11.map Prod.fst).contains 0) = true := by decide +kernel
set_option maxRecDepth 100000 in
set_option maxHeartbeats 4000000 in
theorem pm_km12 : pm_okM 12 898 95 897 42 = true := by decide +kernel
set_option maxRecDepth 100000 in
set_option maxHeartbeats 4000000 in
theorem pm_ki12 : ((pm_p12.all fun q => pm_okI 12 (pm_p12.map Prod.fst) q.1 q.2) && (pm_p12.map Prod.fst).contains 0) = true := by decide +kernel
set_option maxRecDepth 100000 in
set_option maxHeartbeats 4000000 in
theorem pm_km13 : pm_okM 13 901 95 900 0 = true := by decide +kernel
set_option maxRecDepth 100000 in
set_option maxHeartbeats 4000000 in
theorem pm_ki13 : ((pm_p13.all fun q => pm_okI 13 (pm_p13.map Prod.fst) q.1 q.2) && (pm_p13.map Prod.fst).contains 0) = true := by decide +kernel
set_option maxRecDepth 100000 in
set_option maxHeartbeats 4000000 in
theorem pm_km14 : pm_okM 14 691 95 690 32 = true := by decide +kernel
set_option maxRecDepth 100000 in
set_option maxHeartbeats 4000000 in
theorem pm_ki14 : ((pm_p14.all fun q => pm_okI 14 (pm_p14.map Prod.fst) q.1 q.2) && (pm_p14.map Prod.fst).contains 0) = true := by decide +kernel
set_option maxRecDepth 100000 in
set_option maxHeartbeats 4000000 in
theorem pm_km15 : pm_okM 15 152 93 151 0 = true := by decide +kernel
set_option maxRecDepth 100000 in
set_option maxHeartbeats 4000000 in
theorem pm_ki15 : ((pm_p15.all fun q => pm_okI 15 (pm_p15.map Prod.fst) q.1 q.2) && (pm_p15.map Prod.fst).contains 0) = true := by decide +kernel
set_option maxRecDepth 100000 in
set_option maxHeartbeats 4000000 in
theorem pm_km16 : pm_okM 16 741 93 740 34 = true := by decide +kernel
set_option maxRecDepth 100000 in
set_option maxHeartbeats 4000000 in
theorem pm_ki16 : ((pm_p16.all fun q => pm_okI 16 (pm_p16.map Prod.fst) q.1 q.2) && (pm_p16.map Prod.fst).contains 0) = true := by decide +kernel
set_option maxRecDepth 100000 in
set_option maxHeartbeats 4000000 in
theorem pm_km17 : pm_okM 17 474 93 473 18 = true := by decide +kernel
set_option maxRecDepth 100000 in
set_option maxHeartbeats 4000000 in
theorem pm_ki17 : ((pm_p17.all fun q => pm_okI 17 (pm_p17.map Prod.fst) q.1 q.2) && (pm_p17.map Prod.fst).contains 0) = true := by decide +kernel
set_option maxRecDepth 100000 in
set_option maxHeartbeats 4000000 in
theorem pm_km18 : pm_okM 18 1121 93 1120 58 = true := by decide +kernel
set_option maxRecDepth 100000 in
set_option maxHeartbeats 4000000 in
theorem pm_ki18 : ((pm_p18.all fun q => pm_okI 18 (pm_p18.map Prod.fst) q.1 q.2) && (pm_p18.map Prod.fst).contains 0) = true := by decide +kernel
set_option maxRecDepth 100000 in
set_option maxHeartbeats 4000000 in
theorem pm_km19 : pm_okM 19 1135 93 1134 61 = true := by decide +kernel
set_option maxRecDepth 100000 in
set_option maxHeartbeats 4000000 in
theorem pm_ki19 : ((pm_p19.all fun q => pm_okI 19 (pm_p19.map Prod.fst) q.1 q.2) && (pm_p19.map Prod.fst).contains 0) = true := by decide +kernel
