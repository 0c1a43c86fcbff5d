/-! checks, closed by the kernel (laid by wip/whole/gen_words.py) -/
set_option maxRecDepth 100000 in
set_option maxHeartbeats 4000000 in
theorem pm_ki194 : ((pm_p194.all fun q => pm_okI 194 (pm_p194.map Prod.fst) q.1 q.2) && (pm_p194.map Prod.fst).contains 0) = true := by decide +kernel
set_option maxRecDepth 100000 in
set_option maxHeartbeats 4000000 in
theorem pm_km195 : pm_okM 195 1575 99 1573 1574 = true := by decide +kernel
set_option maxRecDepth 100000 in
set_option maxHeartbeats 4000000 in
theorem pm_ki195 : ((pm_p195.all fun q => pm_okI 195 (pm_p195.map Prod.fst) q.1 q.2) && (pm_p195.map Prod.fst).contains 0) = true := by decide +kernel
set_option maxRecDepth 100000 in
set_option maxHeartbeats 4000000 in
theorem pm_km196 : pm_okM 196 1587 99 1585 1586 = true := by decide +kernel
set_option maxRecDepth 100000 in
set_option maxHeartbeats 4000000 in
theorem pm_ki196 : ((pm_p196.all fun q => pm_okI 196 (pm_p196.map Prod.fst) q.1 q.2) && (pm_p196.map Prod.fst).contains 0) = true := by decide +kernel
set_option maxRecDepth 100000 in
set_option maxHeartbeats 4000000 in
theorem pm_km197 : pm_okM 197 1595 99 1594 87 = true := by decide +kernel
set_option maxRecDepth 100000 in
set_option maxHeartbeats 4000000 in
theorem pm_ki197 : ((pm_p197.all fun q => pm_okI 197 (pm_p197.map Prod.fst) q.1 q.2) && (pm_p197.map Prod.fst).contains 0) = true := by decide +kernel
set_option maxRecDepth 100000 in
set_option maxHeartbeats 4000000 in
theorem pm_km198 : pm_okM 198 1599 99 1598 88 = true := by decide +kernel
set_option maxRecDepth 100000 in
set_option maxHeartbeats 4000000 in
theorem pm_ki198 : ((pm_p198.all fun q => pm_okI 198 (pm_p198.map Prod.fst) q.1 q.2) && (pm_p198.map Prod.fst).contains 0) = true := by decide +kernel
set_option maxRecDepth 100000 in
set_option maxHeartbeats 4000000 in
theorem pm_km199 : pm_okM 199 1591 99 1589 1590 = true := by decide +kernel
set_option maxRecDepth 100000 in
set_option maxHeartbeats 4000000 in
theorem pm_ki199 : ((pm_p199.all fun q => pm_okI 199 (pm_p199.map Prod.fst) q.1 q.2) && (pm_p199.map Prod.fst).contains 0) = true := by decide +kernel
set_option maxRecDepth 100000 in
set_option maxHeartbeats 4000000 in
theorem pm_km200 : pm_okM 200 1603 99 1601 1602 = true := by decide +kernel
set_option maxRecDepth 100000 in
set_option maxHeartbeats 4000000 in
theorem pm_ki200 : ((pm_p200.all fun q => pm_okI 200 (pm_p200.map Prod.fst) q.1 q.2) && (pm_p200.map Prod.fst).contains 0) = true := by decide +kernel
set_option maxRecDepth 100000 in
set_option maxHeartbeats 4000000 in
theorem pm_km201 : pm_okM 201 1607 99 1605 1606 = true := by decide +kernel
set_option maxRecDepth 100000 in
set_option maxHeartbeats 4000000 in
theorem pm_ki201 : ((pm_p201.all fun q => pm_okI 201 (pm_p201.map Prod.fst) q.1 q.2) && (pm_p201.map Prod.fst).contains 0) = true := by decide +kernel
set_option maxRecDepth 100000 in
set_option maxHeartbeats 4000000 in
theorem pm_km202 : pm_okM 202 1611 99 1609 1610 = true := by decide +kernel
set_option maxRecDepth 100000 in
set_option maxHeartbeats 4000000 in
theorem pm_ki202 : ((pm_p202.all fun q => pm_okI 202 (pm_p202.map Prod.fst) q.1 q.2) && (pm_p202.map Prod.fst).contains 0) = true := by decide +kernel
set_option maxRecDepth 100000 in
set_option maxHeartbeats 4000000 in
theorem pm_km203 : pm_okM 203 478 89 477 0 = true := by decide +kernel
set_option maxRecDepth 100000 in
set_option maxHeartbeats 4000000 in
theorem pm_ki203 : ((pm_p203.all fun q => pm_okI 203 (pm_p203.map Prod.fst) q.1 q.2) && (pm_p203.map Prod.fst).contains 0) = true := by decide +kernel
set_option maxRecDepth 100000 in
set_option maxHeartbeats 4000000 in
theorem pm_km204 : pm_okM 204 576 89 575 0 = true := by decide +kernel
set_option maxRecDepth 100000 in
set_option maxHeartbeats 4000000 in
theorem pm_ki204 : ((pm_p204.all fun q => pm_okI 204 (pm_p204.map Prod.fst) q.1 q.2) && (pm_p204.map Prod.fst).contains 0) = true := by decide +kernel
set_option maxRecDepth 100000 in
set_option maxHeartbeats 4000000 in
theorem pm_km205 : pm_okM 205 622 89 621 0 = true := by decide +kernel
set_option maxRecDepth 100000 in
set_option maxHeartbeats 4000000 in
theorem pm_ki205 : ((pm_p205.all fun q => pm_okI 205 (pm_p205.map Prod.fst) q.1 q.2) && (pm_p205.map Prod.fst).contains 0) = true := by decide +kernel
set_option maxRecDepth 100000 in
set_option maxHeartbeats 4000000 in
theorem pm_km206 : pm_okM 206 637 89 636 0 = true := by decide +kernel
set_option maxRecDepth 100000 in
set_option maxHeartbeats 4000000 in
theorem pm_ki206 : ((pm_p206.all fun q => pm_okI 206 (pm_p206.map Prod.fst) q.1 q.2) && (pm_p206.map Prod.fst).contains 0) = true := by decide +kernel
set_option maxRecDepth 100000 in
set_option maxHeartbeats 4000000 in
theorem pm_km207 : pm_okM 207 694 89 693 0 = true := by decide +kernel
set_option maxRecDepth 100000 in
set_option maxHeartbeats 4000000 in
theorem pm_ki207 : ((pm_p207.all fun q => pm_okI 207 (pm_p207.map Prod.fst) q.1 q.2) && (pm_p207.map Prod.fst).contains 0) = true := by decide +kernel
set_option maxRecDepth 100000 in
set_option maxHeartbeats 4000000 in
theorem pm_km208 : pm_okM 208 705 89 704 0 = true := by decide +kernel
set_option maxRecDepth 100000 in
set_option maxHeartbeats 4000000 in
theorem pm_ki208 : ((pm_p208.all fun q => pm_okI 208 (pm_p208.map Prod.fst) q.1 q.2) && (pm_p208.map Prod.fst).contains 0) = true := by decide +kernel
set_option maxRecDepth 100000 in
set_option maxHeartbeats 4000000 in
theorem pm_km209 : pm_okM 209 717 89 716 0 = true := by decide +kernel
set_option maxRecDepth 100000 in
set_option maxHeartbeats 4000000 in
theorem pm_ki209 : ((pm_p209.all fun q => pm_okI 209 (pm_p209.map Prod.fst) q.1 q.2) && (pm_p209.map Prod.fst).contains 0) = true := by decide +kernel
set_option maxRecDepth 100000 in
set_option maxHeartbeats 4000000 in
theorem pm_km210 : pm_okM 210 724 89 723 0 = true := by decide +kernel
set_option maxRecDepth 100000 in
set_option maxHeartbeats 4000000 in
theorem pm_ki210 : ((pm_p210.all fun q => pm_okI 210 (pm_p210.map Prod.fst) q.1 q.2) && (pm_p210.map Prod.fst).contains 0) = true := by decide +kernel
set_option maxRecDepth 100000 in
set_option maxHeartbeats 4000000 in
theorem pm_km211 : pm_okM 211 732 89 731 0 = true := by decide +kernel
set_option maxRecDepth 100000 in
set_option maxHeartbeats 4000000 in
theorem pm_ki211 : ((pm_p211.all fun q => pm_okI 211 (pm_p211.map Prod.fst) q.1 q.2) && (pm_p211.map Prod.fst).contains 0) = true := by decide +kernel
set_option maxRecDepth 100000 in
set_option maxHeartbeats 4000000 in
theorem pm_km212 : pm_okM 212 745 89 744 0 = true := by decide +kernel
set_option maxRecDepth 100000 in
set_option maxHeartbeats 4000000 in
theorem pm_ki212 : ((pm_p212.all fun q => pm_okI 212 (pm_p212.map Prod.fst) q.1 q.2) && (pm_p212.map Prod.fst).contains 0) = true := by decide +kernel
set_option maxRecDepth 100000 in
set_option maxHeartbeats 4000000 in
theorem pm_km213 : pm_okM 213 758 89 757 0 = true := by decide +kernel
set_option maxRecDepth 100000 in
set_option maxHeartbeats 4000000 in
theorem pm_ki213 : ((pm_p213.all fun q => pm_okI 213 (pm_p213.map Prod.fst) q.1 q.2) && (pm_p213.map Prod.fst).contains 0) = true := by decide +kernel
set_option maxRecDepth 100000 in
set_option maxHeartbeats 4000000 in
theorem pm_km214 : pm_okM 214 766 89 765 0 = true := by decide +kernel
set_option maxRecDepth 100000 in
set_option maxHeartbeats 4000000 in
theorem pm_ki214 : ((pm_p214.all fun q => pm_okI 214 (pm_p214.map Prod.fst) q.1 q.2) && (pm_p214.map Prod.fst).contains 0) = true := by decide +kernel
set_option maxRecDepth 100000 in
set_option maxHeartbeats 4000000 in
theorem pm_km215 : pm_okM 215 791 89 790 0 = true := by decide +kernel
set_option maxRecDepth 100000 in
set_option maxHeartbeats 4000000 in
theorem pm_ki215 : ((pm_p215.all fun q => pm_okI 215 (pm_p215.map Prod.fst) q.1 q.2) && (pm_p215.map Prod.fst).contains 0) = true := by decide +kernel
set_option maxRecDepth 100000 in
set_option maxHeartbeats 4000000 in
theorem pm_km216 : pm_okM 216 800 89 799 0 = true := by decide +kernel
set_option maxRecDepth 100000 in
set_option maxHeartbeats 4000000 in
theorem pm_ki216 : ((pm_p216.all fun q => pm_okI 216 (pm_p216.map Prod.fst) q.1 q.2) && (pm_p216.map Prod.fst).contains 0) = true := by decide +kernel
set_option maxRecDepth 100000 in
set_option maxHeartbeats 4000000 in
theorem pm_km217 : pm_okM 217 816 89 815 0 = true := by decide +kernel
set_option maxRecDepth 100000 in
set_option maxHeartbeats 4000000 in
theorem pm_ki217 : ((pm_p217.all fun q => pm_okI 217 (pm_p217.map Prod.fst) q.1 q.2) && (pm_p217.map Prod.fst).contains 0) = true := by decide +kernel
set_option maxRecDepth 100000 in
set_option maxHeartbeats 4000000 in
theorem pm_km218 : pm_okM 218 824 89 823 0 = true := by decide +kernel
set_option maxRecDepth 100000 in
set_option maxHeartbeats 4000000 in
theorem pm_ki218 : ((pm_p218.all fun q => pm_okI 218 (pm_p218.map Prod.fst) q.1 q.2) && (pm_p218.map Prod.fst).contains 0) = true := by decide +kernel
set_option maxRecDepth 100000 in
set_option maxHeartbeats 4000000 in
theorem pm_km219 : pm_okM 219 831 89 830 0 = true := by decide +kernel
set_option maxRecDepth 100000 in
set_option maxHeartbeats 4000000 in
theorem pm_ki219 : ((pm_p219.all fun q => pm_okI 219 (pm_p219.map Prod.fst) q.1 q.2) && (pm_p219.map Prod.fst).contains 0) = true := by decide +kernel
set_option maxRecDepth 100000 in
set_option maxHeartbeats 4000000 in
theorem pm_km220 : pm_okM 220 862 89 861 0 = true := by decide +kernel
set_option maxRecDepth 100000 in
set_option maxHeartbeats 4000000 in
theorem pm_ki220 : ((pm_p220.all fun q => pm_okI 220 (pm_p220.map Prod.fst) q.1 q.2) && (pm_p220.map Prod.fst).contains 0) = true := by decide +kernel
set_option maxRecDepth 100000 in
set_option maxHeartbeats 4000000 in
theorem pm_km221 : pm_okM 221 874 89 873 0 = true := by decide +kernel
set_option maxRecDepth 100000 in
set_option maxHeartbeats 4000000 in
theorem pm_ki221 : ((pm_p221.all fun q => pm_okI 221 (pm_p221.map Prod.fst) q.1 q.2) && (pm_p221.map Prod.fst).contains 0) = true := by decide +kernel
set_option maxRecDepth 100000 in
set_option maxHeartbeats 4000000 in
theorem pm_km222 : pm_okM 222 882 89 881 0 = true := by decide +kernel
set_option maxRecDepth 100000 in
set_option maxHeartbeats 4000000 in
theorem pm_ki222 : ((pm_p222.all fun q => pm_okI 222 (pm_p222.map Prod.fst) q.1 q.2) && (pm_p222.map Prod.fst).contains 0) = true := by decide +kernel
set_option maxRecDepth 100000 in
set_option maxHeartbeats 4000000 in
theorem pm_km223 : pm_okM 223 904 89 903 0 = true := by decide +kernel
set_option maxRecDepth 100000 in
set_option maxHeartbeats 4000000 in
theorem pm_ki223 : ((pm_p223.all fun q => pm_okI 223 (pm_p223.map Prod.fst) q.1 q.2) && (pm_p223.map Prod.fst).contains 0) = true := by decide +kernel
