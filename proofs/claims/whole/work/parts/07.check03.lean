/-! checks, closed by the kernel (laid by wip/whole/gen_words.py) -/
set_option maxRecDepth 100000 in
set_option maxHeartbeats 4000000 in
theorem pm_km78 : pm_okM 78 820 90 818 819 = true := by decide +kernel
set_option maxRecDepth 100000 in
set_option maxHeartbeats 4000000 in
theorem pm_ki78 : ((pm_p78.all fun q => pm_okI 78 (pm_p78.map Prod.fst) q.1 q.2) && (pm_p78.map Prod.fst).contains 0) = true := by decide +kernel
set_option maxRecDepth 100000 in
set_option maxHeartbeats 4000000 in
theorem pm_km79 : pm_okM 79 828 90 826 827 = true := by decide +kernel
set_option maxRecDepth 100000 in
set_option maxHeartbeats 4000000 in
theorem pm_ki79 : ((pm_p79.all fun q => pm_okI 79 (pm_p79.map Prod.fst) q.1 q.2) && (pm_p79.map Prod.fst).contains 0) = true := by decide +kernel
set_option maxRecDepth 100000 in
set_option maxHeartbeats 4000000 in
theorem pm_km80 : pm_okM 80 836 90 834 835 = true := by decide +kernel
set_option maxRecDepth 100000 in
set_option maxHeartbeats 4000000 in
theorem pm_ki80 : ((pm_p80.all fun q => pm_okI 80 (pm_p80.map Prod.fst) q.1 q.2) && (pm_p80.map Prod.fst).contains 0) = true := by decide +kernel
set_option maxRecDepth 100000 in
set_option maxHeartbeats 4000000 in
theorem pm_km81 : pm_okM 81 866 90 864 865 = true := by decide +kernel
set_option maxRecDepth 100000 in
set_option maxHeartbeats 4000000 in
theorem pm_ki81 : ((pm_p81.all fun q => pm_okI 81 (pm_p81.map Prod.fst) q.1 q.2) && (pm_p81.map Prod.fst).contains 0) = true := by decide +kernel
set_option maxRecDepth 100000 in
set_option maxHeartbeats 4000000 in
theorem pm_km82 : pm_okM 82 878 90 876 877 = true := by decide +kernel
set_option maxRecDepth 100000 in
set_option maxHeartbeats 4000000 in
theorem pm_ki82 : ((pm_p82.all fun q => pm_okI 82 (pm_p82.map Prod.fst) q.1 q.2) && (pm_p82.map Prod.fst).contains 0) = true := by decide +kernel
set_option maxRecDepth 100000 in
set_option maxHeartbeats 4000000 in
theorem pm_km83 : pm_okM 83 886 90 884 885 = true := by decide +kernel
set_option maxRecDepth 100000 in
set_option maxHeartbeats 4000000 in
theorem pm_ki83 : ((pm_p83.all fun q => pm_okI 83 (pm_p83.map Prod.fst) q.1 q.2) && (pm_p83.map Prod.fst).contains 0) = true := by decide +kernel
set_option maxRecDepth 100000 in
set_option maxHeartbeats 4000000 in
theorem pm_km84 : pm_okM 84 908 90 906 907 = true := by decide +kernel
set_option maxRecDepth 100000 in
set_option maxHeartbeats 4000000 in
theorem pm_ki84 : ((pm_p84.all fun q => pm_okI 84 (pm_p84.map Prod.fst) q.1 q.2) && (pm_p84.map Prod.fst).contains 0) = true := by decide +kernel
set_option maxRecDepth 100000 in
set_option maxHeartbeats 4000000 in
theorem pm_km85 : pm_okM 85 922 90 920 921 = true := by decide +kernel
set_option maxRecDepth 100000 in
set_option maxHeartbeats 4000000 in
theorem pm_ki85 : ((pm_p85.all fun q => pm_okI 85 (pm_p85.map Prod.fst) q.1 q.2) && (pm_p85.map Prod.fst).contains 0) = true := by decide +kernel
set_option maxRecDepth 100000 in
set_option maxHeartbeats 4000000 in
theorem pm_km86 : pm_okM 86 427 90 425 426 = true := by decide +kernel
set_option maxRecDepth 100000 in
set_option maxHeartbeats 4000000 in
theorem pm_ki86 : ((pm_p86.all fun q => pm_okI 86 (pm_p86.map Prod.fst) q.1 q.2) && (pm_p86.map Prod.fst).contains 0) = true := by decide +kernel
set_option maxRecDepth 100000 in
set_option maxHeartbeats 4000000 in
theorem pm_km87 : pm_okM 87 935 90 933 934 = true := by decide +kernel
set_option maxRecDepth 100000 in
set_option maxHeartbeats 4000000 in
theorem pm_ki87 : ((pm_p87.all fun q => pm_okI 87 (pm_p87.map Prod.fst) q.1 q.2) && (pm_p87.map Prod.fst).contains 0) = true := by decide +kernel
set_option maxRecDepth 100000 in
set_option maxHeartbeats 4000000 in
theorem pm_km88 : pm_okM 88 947 90 945 946 = true := by decide +kernel
set_option maxRecDepth 100000 in
set_option maxHeartbeats 4000000 in
theorem pm_ki88 : ((pm_p88.all fun q => pm_okI 88 (pm_p88.map Prod.fst) q.1 q.2) && (pm_p88.map Prod.fst).contains 0) = true := by decide +kernel
set_option maxRecDepth 100000 in
set_option maxHeartbeats 4000000 in
theorem pm_km89 : pm_okM 89 453 90 451 452 = true := by decide +kernel
set_option maxRecDepth 100000 in
set_option maxHeartbeats 4000000 in
theorem pm_ki89 : ((pm_p89.all fun q => pm_okI 89 (pm_p89.map Prod.fst) q.1 q.2) && (pm_p89.map Prod.fst).contains 0) = true := by decide +kernel
set_option maxRecDepth 100000 in
set_option maxHeartbeats 4000000 in
theorem pm_km90 : pm_okM 90 960 90 958 959 = true := by decide +kernel
set_option maxRecDepth 100000 in
set_option maxHeartbeats 4000000 in
theorem pm_ki90 : ((pm_p90.all fun q => pm_okI 90 (pm_p90.map Prod.fst) q.1 q.2) && (pm_p90.map Prod.fst).contains 0) = true := by decide +kernel
set_option maxRecDepth 100000 in
set_option maxHeartbeats 4000000 in
theorem pm_km91 : pm_okM 91 972 90 970 971 = true := by decide +kernel
set_option maxRecDepth 100000 in
set_option maxHeartbeats 4000000 in
theorem pm_ki91 : ((pm_p91.all fun q => pm_okI 91 (pm_p91.map Prod.fst) q.1 q.2) && (pm_p91.map Prod.fst).contains 0) = true := by decide +kernel
set_option maxRecDepth 100000 in
set_option maxHeartbeats 4000000 in
theorem pm_km92 : pm_okM 92 985 90 983 984 = true := by decide +kernel
set_option maxRecDepth 100000 in
set_option maxHeartbeats 4000000 in
theorem pm_ki92 : ((pm_p92.all fun q => pm_okI 92 (pm_p92.map Prod.fst) q.1 q.2) && (pm_p92.map Prod.fst).contains 0) = true := by decide +kernel
set_option maxRecDepth 100000 in
set_option maxHeartbeats 4000000 in
theorem pm_km93 : pm_okM 93 1041 90 1039 1040 = true := by decide +kernel
set_option maxRecDepth 100000 in
set_option maxHeartbeats 4000000 in
theorem pm_ki93 : ((pm_p93.all fun q => pm_okI 93 (pm_p93.map Prod.fst) q.1 q.2) && (pm_p93.map Prod.fst).contains 0) = true := by decide +kernel
set_option maxRecDepth 100000 in
set_option maxHeartbeats 4000000 in
theorem pm_km94 : pm_okM 94 1059 90 1057 1058 = true := by decide +kernel
set_option maxRecDepth 100000 in
set_option maxHeartbeats 4000000 in
theorem pm_ki94 : ((pm_p94.all fun q => pm_okI 94 (pm_p94.map Prod.fst) q.1 q.2) && (pm_p94.map Prod.fst).contains 0) = true := by decide +kernel
set_option maxRecDepth 100000 in
set_option maxHeartbeats 4000000 in
theorem pm_km95 : pm_okM 95 1070 90 1068 1069 = true := by decide +kernel
set_option maxRecDepth 100000 in
set_option maxHeartbeats 4000000 in
theorem pm_ki95 : ((pm_p95.all fun q => pm_okI 95 (pm_p95.map Prod.fst) q.1 q.2) && (pm_p95.map Prod.fst).contains 0) = true := by decide +kernel
set_option maxRecDepth 100000 in
set_option maxHeartbeats 4000000 in
theorem pm_km96 : pm_okM 96 1078 90 1076 1077 = true := by decide +kernel
set_option maxRecDepth 100000 in
set_option maxHeartbeats 4000000 in
theorem pm_ki96 : ((pm_p96.all fun q => pm_okI 96 (pm_p96.map Prod.fst) q.1 q.2) && (pm_p96.map Prod.fst).contains 0) = true := by decide +kernel
set_option maxRecDepth 100000 in
set_option maxHeartbeats 4000000 in
theorem pm_km97 : pm_okM 97 1086 90 1084 1085 = true := by decide +kernel
set_option maxRecDepth 100000 in
set_option maxHeartbeats 4000000 in
theorem pm_ki97 : ((pm_p97.all fun q => pm_okI 97 (pm_p97.map Prod.fst) q.1 q.2) && (pm_p97.map Prod.fst).contains 0) = true := by decide +kernel
set_option maxRecDepth 100000 in
set_option maxHeartbeats 4000000 in
theorem pm_km98 : pm_okM 98 1093 90 1091 1092 = true := by decide +kernel
set_option maxRecDepth 100000 in
set_option maxHeartbeats 4000000 in
theorem pm_ki98 : ((pm_p98.all fun q => pm_okI 98 (pm_p98.map Prod.fst) q.1 q.2) && (pm_p98.map Prod.fst).contains 0) = true := by decide +kernel
set_option maxRecDepth 100000 in
set_option maxHeartbeats 4000000 in
theorem pm_km99 : pm_okM 99 1107 90 1105 1106 = true := by decide +kernel
set_option maxRecDepth 100000 in
set_option maxHeartbeats 4000000 in
theorem pm_ki99 : ((pm_p99.all fun q => pm_okI 99 (pm_p99.map Prod.fst) q.1 q.2) && (pm_p99.map Prod.fst).contains 0) = true := by decide +kernel
set_option maxRecDepth 100000 in
set_option maxHeartbeats 4000000 in
theorem pm_km100 : pm_okM 100 1116 90 1114 1115 = true := by decide +kernel
set_option maxRecDepth 100000 in
set_option maxHeartbeats 4000000 in
theorem pm_ki100 : ((pm_p100.all fun q => pm_okI 100 (pm_p100.map Prod.fst) q.1 q.2) && (pm_p100.map Prod.fst).contains 0) = true := by decide +kernel
set_option maxRecDepth 100000 in
set_option maxHeartbeats 4000000 in
theorem pm_km101 : pm_okM 101 1145 90 1143 1144 = true := by decide +kernel
set_option maxRecDepth 100000 in
set_option maxHeartbeats 4000000 in
theorem pm_ki101 : ((pm_p101.all fun q => pm_okI 101 (pm_p101.map Prod.fst) q.1 q.2) && (pm_p101.map Prod.fst).contains 0) = true := by decide +kernel
set_option maxRecDepth 100000 in
set_option maxHeartbeats 4000000 in
theorem pm_km102 : pm_okM 102 465 90 463 464 = true := by decide +kernel
set_option maxRecDepth 100000 in
set_option maxHeartbeats 4000000 in
theorem pm_ki102 : ((pm_p102.all fun q => pm_okI 102 (pm_p102.map Prod.fst) q.1 q.2) && (pm_p102.map Prod.fst).contains 0) = true := by decide +kernel
set_option maxRecDepth 100000 in
set_option maxHeartbeats 4000000 in
theorem pm_km103 : pm_okM 103 1152 90 1150 1151 = true := by decide +kernel
set_option maxRecDepth 100000 in
set_option maxHeartbeats 4000000 in
theorem pm_ki103 : ((pm_p103.all fun q => pm_okI 103 (pm_p103.map Prod.fst) q.1 q.2) && (pm_p103.map Prod.fst).contains 0) = true := by decide +kernel
set_option maxRecDepth 100000 in
set_option maxHeartbeats 4000000 in
theorem pm_km104 : pm_okM 104 367 90 366 0 = true := by decide +kernel
set_option maxRecDepth 100000 in
set_option maxHeartbeats 4000000 in
theorem pm_ki104 : ((pm_p104.all fun q => pm_okI 104 (pm_p104.map Prod.fst) q.1 q.2) && (pm_p104.map Prod.fst).contains 0) = true := by decide +kernel
set_option maxRecDepth 100000 in
set_option maxHeartbeats 4000000 in
theorem pm_km105 : pm_okM 105 440 90 439 0 = true := by decide +kernel
set_option maxRecDepth 100000 in
set_option maxHeartbeats 4000000 in
theorem pm_ki105 : ((pm_p105.all fun q => pm_okI 105 (pm_p105.map Prod.fst) q.1 q.2) && (pm_p105.map Prod.fst).contains 0) = true := by decide +kernel
set_option maxRecDepth 100000 in
set_option maxHeartbeats 4000000 in
theorem pm_km106 : pm_okM 106 629 90 628 0 = true := by decide +kernel
set_option maxRecDepth 100000 in
set_option maxHeartbeats 4000000 in
theorem pm_ki106 : ((pm_p106.all fun q => pm_okI 106 (pm_p106.map Prod.fst) q.1 q.2) && (pm_p106.map Prod.fst).contains 0) = true := by decide +kernel
set_option maxRecDepth 100000 in
set_option maxHeartbeats 4000000 in
theorem pm_km107 : pm_okM 107 701 90 700 0 = true := by decide +kernel
set_option maxRecDepth 100000 in
set_option maxHeartbeats 4000000 in
theorem pm_ki107 : ((pm_p107.all fun q => pm_okI 107 (pm_p107.map Prod.fst) q.1 q.2) && (pm_p107.map Prod.fst).contains 0) = true := by decide +kernel
set_option maxRecDepth 100000 in
set_option maxHeartbeats 4000000 in
theorem pm_km108 : pm_okM 108 713 90 712 33 = true := by decide +kernel
set_option maxRecDepth 100000 in
set_option maxHeartbeats 4000000 in
theorem pm_ki108 : ((pm_p108.all fun q => pm_okI 108 (pm_p108.map Prod.fst) q.1 q.2) && (pm_p108.map Prod.fst).contains 0) = true := by decide +kernel
set_option maxRecDepth 100000 in
set_option maxHeartbeats 4000000 in
theorem pm_km109 : pm_okM 109 753 90 752 35 = true := by decide +kernel
set_option maxRecDepth 100000 in
set_option maxHeartbeats 4000000 in
theorem pm_ki109 : ((pm_p109.all fun q => pm_okI 109 (pm_p109.map Prod.fst) q.1 q.2) && (pm_p109.map Prod.fst).contains 0) = true := by decide +kernel
