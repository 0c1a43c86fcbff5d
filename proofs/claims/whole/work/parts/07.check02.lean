/-! checks, closed by the kernel (laid by wip/whole/gen_words.py) -/
set_option maxRecDepth 100000 in
set_option maxHeartbeats 4000000 in
theorem pm_km47 : pm_okM 47 952 92 951 46 = true := by decide +kernel
set_option maxRecDepth 100000 in
set_option maxHeartbeats 4000000 in
theorem pm_ki47 : ((pm_p47.all fun q => pm_okI 47 (pm_p47.map Prod.fst) q.1 q.2) && (pm_p47.map Prod.fst).contains 0) = true := by decide +kernel
set_option maxRecDepth 100000 in
set_option maxHeartbeats 4000000 in
theorem pm_km48 : pm_okM 48 400 92 399 8 = true := by decide +kernel
set_option maxRecDepth 100000 in
set_option maxHeartbeats 4000000 in
theorem pm_ki48 : ((pm_p48.all fun q => pm_okI 48 (pm_p48.map Prod.fst) q.1 q.2) && (pm_p48.map Prod.fst).contains 0) = true := by decide +kernel
set_option maxRecDepth 100000 in
set_option maxHeartbeats 4000000 in
theorem pm_km49 : pm_okM 49 388 92 387 5 = true := by decide +kernel
set_option maxRecDepth 100000 in
set_option maxHeartbeats 4000000 in
theorem pm_ki49 : ((pm_p49.all fun q => pm_okI 49 (pm_p49.map Prod.fst) q.1 q.2) && (pm_p49.map Prod.fst).contains 0) = true := by decide +kernel
set_option maxRecDepth 100000 in
set_option maxHeartbeats 4000000 in
theorem pm_km50 : pm_okM 50 659 92 658 24 = true := by decide +kernel
set_option maxRecDepth 100000 in
set_option maxHeartbeats 4000000 in
theorem pm_ki50 : ((pm_p50.all fun q => pm_okI 50 (pm_p50.map Prod.fst) q.1 q.2) && (pm_p50.map Prod.fst).contains 0) = true := by decide +kernel
set_option maxRecDepth 100000 in
set_option maxHeartbeats 4000000 in
theorem pm_km51 : pm_okM 51 364 92 363 1 = true := by decide +kernel
set_option maxRecDepth 100000 in
set_option maxHeartbeats 4000000 in
theorem pm_ki51 : ((pm_p51.all fun q => pm_okI 51 (pm_p51.map Prod.fst) q.1 q.2) && (pm_p51.map Prod.fst).contains 0) = true := by decide +kernel
set_option maxRecDepth 100000 in
set_option maxHeartbeats 4000000 in
theorem pm_km52 : pm_okM 52 237 96 236 0 = true := by decide +kernel
set_option maxRecDepth 100000 in
set_option maxHeartbeats 4000000 in
theorem pm_ki52 : ((pm_p52.all fun q => pm_okI 52 (pm_p52.map Prod.fst) q.1 q.2) && (pm_p52.map Prod.fst).contains 0) = true := by decide +kernel
set_option maxRecDepth 100000 in
set_option maxHeartbeats 4000000 in
theorem pm_km53 : pm_okM 53 991 96 990 49 = true := by decide +kernel
set_option maxRecDepth 100000 in
set_option maxHeartbeats 4000000 in
theorem pm_ki53 : ((pm_p53.all fun q => pm_okI 53 (pm_p53.map Prod.fst) q.1 q.2) && (pm_p53.map Prod.fst).contains 0) = true := by decide +kernel
set_option maxRecDepth 100000 in
set_option maxHeartbeats 4000000 in
theorem pm_km54 : pm_okM 54 1003 96 1002 51 = true := by decide +kernel
set_option maxRecDepth 100000 in
set_option maxHeartbeats 4000000 in
theorem pm_ki54 : ((pm_p54.all fun q => pm_okI 54 (pm_p54.map Prod.fst) q.1 q.2) && (pm_p54.map Prod.fst).contains 0) = true := by decide +kernel
set_option maxRecDepth 100000 in
set_option maxHeartbeats 4000000 in
theorem pm_km55 : pm_okM 55 1012 96 1011 53 = true := by decide +kernel
set_option maxRecDepth 100000 in
set_option maxHeartbeats 4000000 in
theorem pm_ki55 : ((pm_p55.all fun q => pm_okI 55 (pm_p55.map Prod.fst) q.1 q.2) && (pm_p55.map Prod.fst).contains 0) = true := by decide +kernel
set_option maxRecDepth 100000 in
set_option maxHeartbeats 4000000 in
theorem pm_km56 : pm_okM 56 117 90 116 0 = true := by decide +kernel
set_option maxRecDepth 100000 in
set_option maxHeartbeats 4000000 in
theorem pm_ki56 : ((pm_p56.all fun q => pm_okI 56 (pm_p56.map Prod.fst) q.1 q.2) && (pm_p56.map Prod.fst).contains 0) = true := by decide +kernel
set_option maxRecDepth 100000 in
set_option maxHeartbeats 4000000 in
theorem pm_km57 : pm_okM 57 484 90 482 483 = true := by decide +kernel
set_option maxRecDepth 100000 in
set_option maxHeartbeats 4000000 in
theorem pm_ki57 : ((pm_p57.all fun q => pm_okI 57 (pm_p57.map Prod.fst) q.1 q.2) && (pm_p57.map Prod.fst).contains 0) = true := by decide +kernel
set_option maxRecDepth 100000 in
set_option maxHeartbeats 4000000 in
theorem pm_km58 : pm_okM 58 348 90 346 347 = true := by decide +kernel
set_option maxRecDepth 100000 in
set_option maxHeartbeats 4000000 in
theorem pm_ki58 : ((pm_p58.all fun q => pm_okI 58 (pm_p58.map Prod.fst) q.1 q.2) && (pm_p58.map Prod.fst).contains 0) = true := by decide +kernel
set_option maxRecDepth 100000 in
set_option maxHeartbeats 4000000 in
theorem pm_km59 : pm_okM 59 356 90 354 355 = true := by decide +kernel
set_option maxRecDepth 100000 in
set_option maxHeartbeats 4000000 in
theorem pm_ki59 : ((pm_p59.all fun q => pm_okI 59 (pm_p59.map Prod.fst) q.1 q.2) && (pm_p59.map Prod.fst).contains 0) = true := by decide +kernel
set_option maxRecDepth 100000 in
set_option maxHeartbeats 4000000 in
theorem pm_km60 : pm_okM 60 604 90 602 603 = true := by decide +kernel
set_option maxRecDepth 100000 in
set_option maxHeartbeats 4000000 in
theorem pm_ki60 : ((pm_p60.all fun q => pm_okI 60 (pm_p60.map Prod.fst) q.1 q.2) && (pm_p60.map Prod.fst).contains 0) = true := by decide +kernel
set_option maxRecDepth 100000 in
set_option maxHeartbeats 4000000 in
theorem pm_km61 : pm_okM 61 360 90 358 359 = true := by decide +kernel
set_option maxRecDepth 100000 in
set_option maxHeartbeats 4000000 in
theorem pm_ki61 : ((pm_p61.all fun q => pm_okI 61 (pm_p61.map Prod.fst) q.1 q.2) && (pm_p61.map Prod.fst).contains 0) = true := by decide +kernel
set_option maxRecDepth 100000 in
set_option maxHeartbeats 4000000 in
theorem pm_km62 : pm_okM 62 626 90 624 625 = true := by decide +kernel
set_option maxRecDepth 100000 in
set_option maxHeartbeats 4000000 in
theorem pm_ki62 : ((pm_p62.all fun q => pm_okI 62 (pm_p62.map Prod.fst) q.1 q.2) && (pm_p62.map Prod.fst).contains 0) = true := by decide +kernel
set_option maxRecDepth 100000 in
set_option maxHeartbeats 4000000 in
theorem pm_km63 : pm_okM 63 371 90 369 370 = true := by decide +kernel
set_option maxRecDepth 100000 in
set_option maxHeartbeats 4000000 in
theorem pm_ki63 : ((pm_p63.all fun q => pm_okI 63 (pm_p63.map Prod.fst) q.1 q.2) && (pm_p63.map Prod.fst).contains 0) = true := by decide +kernel
set_option maxRecDepth 100000 in
set_option maxHeartbeats 4000000 in
theorem pm_km64 : pm_okM 64 411 90 409 410 = true := by decide +kernel
set_option maxRecDepth 100000 in
set_option maxHeartbeats 4000000 in
theorem pm_ki64 : ((pm_p64.all fun q => pm_okI 64 (pm_p64.map Prod.fst) q.1 q.2) && (pm_p64.map Prod.fst).contains 0) = true := by decide +kernel
set_option maxRecDepth 100000 in
set_option maxHeartbeats 4000000 in
theorem pm_km65 : pm_okM 65 641 90 639 640 = true := by decide +kernel
set_option maxRecDepth 100000 in
set_option maxHeartbeats 4000000 in
theorem pm_ki65 : ((pm_p65.all fun q => pm_okI 65 (pm_p65.map Prod.fst) q.1 q.2) && (pm_p65.map Prod.fst).contains 0) = true := by decide +kernel
set_option maxRecDepth 100000 in
set_option maxHeartbeats 4000000 in
theorem pm_km66 : pm_okM 66 698 90 696 697 = true := by decide +kernel
set_option maxRecDepth 100000 in
set_option maxHeartbeats 4000000 in
theorem pm_ki66 : ((pm_p66.all fun q => pm_okI 66 (pm_p66.map Prod.fst) q.1 q.2) && (pm_p66.map Prod.fst).contains 0) = true := by decide +kernel
set_option maxRecDepth 100000 in
set_option maxHeartbeats 4000000 in
theorem pm_km67 : pm_okM 67 709 90 707 708 = true := by decide +kernel
set_option maxRecDepth 100000 in
set_option maxHeartbeats 4000000 in
theorem pm_ki67 : ((pm_p67.all fun q => pm_okI 67 (pm_p67.map Prod.fst) q.1 q.2) && (pm_p67.map Prod.fst).contains 0) = true := by decide +kernel
set_option maxRecDepth 100000 in
set_option maxHeartbeats 4000000 in
theorem pm_km68 : pm_okM 68 721 90 719 720 = true := by decide +kernel
set_option maxRecDepth 100000 in
set_option maxHeartbeats 4000000 in
theorem pm_ki68 : ((pm_p68.all fun q => pm_okI 68 (pm_p68.map Prod.fst) q.1 q.2) && (pm_p68.map Prod.fst).contains 0) = true := by decide +kernel
set_option maxRecDepth 100000 in
set_option maxHeartbeats 4000000 in
theorem pm_km69 : pm_okM 69 728 90 726 727 = true := by decide +kernel
set_option maxRecDepth 100000 in
set_option maxHeartbeats 4000000 in
theorem pm_ki69 : ((pm_p69.all fun q => pm_okI 69 (pm_p69.map Prod.fst) q.1 q.2) && (pm_p69.map Prod.fst).contains 0) = true := by decide +kernel
set_option maxRecDepth 100000 in
set_option maxHeartbeats 4000000 in
theorem pm_km70 : pm_okM 70 736 90 734 735 = true := by decide +kernel
set_option maxRecDepth 100000 in
set_option maxHeartbeats 4000000 in
theorem pm_ki70 : ((pm_p70.all fun q => pm_okI 70 (pm_p70.map Prod.fst) q.1 q.2) && (pm_p70.map Prod.fst).contains 0) = true := by decide +kernel
set_option maxRecDepth 100000 in
set_option maxHeartbeats 4000000 in
theorem pm_km71 : pm_okM 71 749 90 747 748 = true := by decide +kernel
set_option maxRecDepth 100000 in
set_option maxHeartbeats 4000000 in
theorem pm_ki71 : ((pm_p71.all fun q => pm_okI 71 (pm_p71.map Prod.fst) q.1 q.2) && (pm_p71.map Prod.fst).contains 0) = true := by decide +kernel
set_option maxRecDepth 100000 in
set_option maxHeartbeats 4000000 in
theorem pm_km72 : pm_okM 72 419 90 417 418 = true := by decide +kernel
set_option maxRecDepth 100000 in
set_option maxHeartbeats 4000000 in
theorem pm_ki72 : ((pm_p72.all fun q => pm_okI 72 (pm_p72.map Prod.fst) q.1 q.2) && (pm_p72.map Prod.fst).contains 0) = true := by decide +kernel
set_option maxRecDepth 100000 in
set_option maxHeartbeats 4000000 in
theorem pm_km73 : pm_okM 73 423 90 421 422 = true := by decide +kernel
set_option maxRecDepth 100000 in
set_option maxHeartbeats 4000000 in
theorem pm_ki73 : ((pm_p73.all fun q => pm_okI 73 (pm_p73.map Prod.fst) q.1 q.2) && (pm_p73.map Prod.fst).contains 0) = true := by decide +kernel
set_option maxRecDepth 100000 in
set_option maxHeartbeats 4000000 in
theorem pm_km74 : pm_okM 74 762 90 760 761 = true := by decide +kernel
set_option maxRecDepth 100000 in
set_option maxHeartbeats 4000000 in
theorem pm_ki74 : ((pm_p74.all fun q => pm_okI 74 (pm_p74.map Prod.fst) q.1 q.2) && (pm_p74.map Prod.fst).contains 0) = true := by decide +kernel
set_option maxRecDepth 100000 in
set_option maxHeartbeats 4000000 in
theorem pm_km75 : pm_okM 75 784 90 782 783 = true := by decide +kernel
set_option maxRecDepth 100000 in
set_option maxHeartbeats 4000000 in
theorem pm_ki75 : ((pm_p75.all fun q => pm_okI 75 (pm_p75.map Prod.fst) q.1 q.2) && (pm_p75.map Prod.fst).contains 0) = true := by decide +kernel
set_option maxRecDepth 100000 in
set_option maxHeartbeats 4000000 in
theorem pm_km76 : pm_okM 76 795 90 793 794 = true := by decide +kernel
set_option maxRecDepth 100000 in
set_option maxHeartbeats 4000000 in
theorem pm_ki76 : ((pm_p76.all fun q => pm_okI 76 (pm_p76.map Prod.fst) q.1 q.2) && (pm_p76.map Prod.fst).contains 0) = true := by decide +kernel
set_option maxRecDepth 100000 in
set_option maxHeartbeats 4000000 in
theorem pm_km77 : pm_okM 77 804 90 802 803 = true := by decide +kernel
set_option maxRecDepth 100000 in
set_option maxHeartbeats 4000000 in
theorem pm_ki77 : ((pm_p77.all fun q => pm_okI 77 (pm_p77.map Prod.fst) q.1 q.2) && (pm_p77.map Prod.fst).contains 0) = true := by decide +kernel
