/-! checks, closed by the kernel (laid by wip/whole/gen_words.py) -/
set_option maxRecDepth 100000 in
set_option maxHeartbeats 4000000 in
theorem pm_km47 : pm_okM 47 947 91 946 45 = true := by decide +kernel
set_option maxRecDepth 100000 in
set_option maxHeartbeats 4000000 in
theorem pm_ki47 : ((pm_p47.all fun q => pm_okI 47 (pm_p47.map Prod.fst) q.1 q.2) && (pm_p47.map Prod.fst).contains 0) = true := by decide +kernel
set_option maxRecDepth 100000 in
set_option maxHeartbeats 4000000 in
theorem pm_km48 : pm_okM 48 396 91 395 8 = true := by decide +kernel
set_option maxRecDepth 100000 in
set_option maxHeartbeats 4000000 in
theorem pm_ki48 : ((pm_p48.all fun q => pm_okI 48 (pm_p48.map Prod.fst) q.1 q.2) && (pm_p48.map Prod.fst).contains 0) = true := by decide +kernel
set_option maxRecDepth 100000 in
set_option maxHeartbeats 4000000 in
theorem pm_km49 : pm_okM 49 384 91 383 5 = true := by decide +kernel
set_option maxRecDepth 100000 in
set_option maxHeartbeats 4000000 in
theorem pm_ki49 : ((pm_p49.all fun q => pm_okI 49 (pm_p49.map Prod.fst) q.1 q.2) && (pm_p49.map Prod.fst).contains 0) = true := by decide +kernel
set_option maxRecDepth 100000 in
set_option maxHeartbeats 4000000 in
theorem pm_km50 : pm_okM 50 657 91 656 24 = true := by decide +kernel
set_option maxRecDepth 100000 in
set_option maxHeartbeats 4000000 in
theorem pm_ki50 : ((pm_p50.all fun q => pm_okI 50 (pm_p50.map Prod.fst) q.1 q.2) && (pm_p50.map Prod.fst).contains 0) = true := by decide +kernel
set_option maxRecDepth 100000 in
set_option maxHeartbeats 4000000 in
theorem pm_km51 : pm_okM 51 363 91 362 1 = true := by decide +kernel
set_option maxRecDepth 100000 in
set_option maxHeartbeats 4000000 in
theorem pm_ki51 : ((pm_p51.all fun q => pm_okI 51 (pm_p51.map Prod.fst) q.1 q.2) && (pm_p51.map Prod.fst).contains 0) = true := by decide +kernel
set_option maxRecDepth 100000 in
set_option maxHeartbeats 4000000 in
theorem pm_km52 : pm_okM 52 236 95 235 0 = true := by decide +kernel
set_option maxRecDepth 100000 in
set_option maxHeartbeats 4000000 in
theorem pm_ki52 : ((pm_p52.all fun q => pm_okI 52 (pm_p52.map Prod.fst) q.1 q.2) && (pm_p52.map Prod.fst).contains 0) = true := by decide +kernel
set_option maxRecDepth 100000 in
set_option maxHeartbeats 4000000 in
theorem pm_km53 : pm_okM 53 986 95 985 48 = true := by decide +kernel
set_option maxRecDepth 100000 in
set_option maxHeartbeats 4000000 in
theorem pm_ki53 : ((pm_p53.all fun q => pm_okI 53 (pm_p53.map Prod.fst) q.1 q.2) && (pm_p53.map Prod.fst).contains 0) = true := by decide +kernel
set_option maxRecDepth 100000 in
set_option maxHeartbeats 4000000 in
theorem pm_km54 : pm_okM 54 998 95 997 50 = true := by decide +kernel
set_option maxRecDepth 100000 in
set_option maxHeartbeats 4000000 in
theorem pm_ki54 : ((pm_p54.all fun q => pm_okI 54 (pm_p54.map Prod.fst) q.1 q.2) && (pm_p54.map Prod.fst).contains 0) = true := by decide +kernel
set_option maxRecDepth 100000 in
set_option maxHeartbeats 4000000 in
theorem pm_km55 : pm_okM 55 1007 95 1006 52 = true := by decide +kernel
set_option maxRecDepth 100000 in
set_option maxHeartbeats 4000000 in
theorem pm_ki55 : ((pm_p55.all fun q => pm_okI 55 (pm_p55.map Prod.fst) q.1 q.2) && (pm_p55.map Prod.fst).contains 0) = true := by decide +kernel
set_option maxRecDepth 100000 in
set_option maxHeartbeats 4000000 in
theorem pm_km56 : pm_okM 56 116 89 115 0 = true := by decide +kernel
set_option maxRecDepth 100000 in
set_option maxHeartbeats 4000000 in
theorem pm_ki56 : ((pm_p56.all fun q => pm_okI 56 (pm_p56.map Prod.fst) q.1 q.2) && (pm_p56.map Prod.fst).contains 0) = true := by decide +kernel
set_option maxRecDepth 100000 in
set_option maxHeartbeats 4000000 in
theorem pm_km57 : pm_okM 57 479 89 477 478 = true := by decide +kernel
set_option maxRecDepth 100000 in
set_option maxHeartbeats 4000000 in
theorem pm_ki57 : ((pm_p57.all fun q => pm_okI 57 (pm_p57.map Prod.fst) q.1 q.2) && (pm_p57.map Prod.fst).contains 0) = true := by decide +kernel
set_option maxRecDepth 100000 in
set_option maxHeartbeats 4000000 in
theorem pm_km58 : pm_okM 58 347 89 345 346 = true := by decide +kernel
set_option maxRecDepth 100000 in
set_option maxHeartbeats 4000000 in
theorem pm_ki58 : ((pm_p58.all fun q => pm_okI 58 (pm_p58.map Prod.fst) q.1 q.2) && (pm_p58.map Prod.fst).contains 0) = true := by decide +kernel
set_option maxRecDepth 100000 in
set_option maxHeartbeats 4000000 in
theorem pm_km59 : pm_okM 59 355 89 353 354 = true := by decide +kernel
set_option maxRecDepth 100000 in
set_option maxHeartbeats 4000000 in
theorem pm_ki59 : ((pm_p59.all fun q => pm_okI 59 (pm_p59.map Prod.fst) q.1 q.2) && (pm_p59.map Prod.fst).contains 0) = true := by decide +kernel
set_option maxRecDepth 100000 in
set_option maxHeartbeats 4000000 in
theorem pm_km60 : pm_okM 60 602 89 600 601 = true := by decide +kernel
set_option maxRecDepth 100000 in
set_option maxHeartbeats 4000000 in
theorem pm_ki60 : ((pm_p60.all fun q => pm_okI 60 (pm_p60.map Prod.fst) q.1 q.2) && (pm_p60.map Prod.fst).contains 0) = true := by decide +kernel
set_option maxRecDepth 100000 in
set_option maxHeartbeats 4000000 in
theorem pm_km61 : pm_okM 61 359 89 357 358 = true := by decide +kernel
set_option maxRecDepth 100000 in
set_option maxHeartbeats 4000000 in
theorem pm_ki61 : ((pm_p61.all fun q => pm_okI 61 (pm_p61.map Prod.fst) q.1 q.2) && (pm_p61.map Prod.fst).contains 0) = true := by decide +kernel
set_option maxRecDepth 100000 in
set_option maxHeartbeats 4000000 in
theorem pm_km62 : pm_okM 62 624 89 622 623 = true := by decide +kernel
set_option maxRecDepth 100000 in
set_option maxHeartbeats 4000000 in
theorem pm_ki62 : ((pm_p62.all fun q => pm_okI 62 (pm_p62.map Prod.fst) q.1 q.2) && (pm_p62.map Prod.fst).contains 0) = true := by decide +kernel
set_option maxRecDepth 100000 in
set_option maxHeartbeats 4000000 in
theorem pm_km63 : pm_okM 63 367 89 365 366 = true := by decide +kernel
set_option maxRecDepth 100000 in
set_option maxHeartbeats 4000000 in
theorem pm_ki63 : ((pm_p63.all fun q => pm_okI 63 (pm_p63.map Prod.fst) q.1 q.2) && (pm_p63.map Prod.fst).contains 0) = true := by decide +kernel
set_option maxRecDepth 100000 in
set_option maxHeartbeats 4000000 in
theorem pm_km64 : pm_okM 64 407 89 405 406 = true := by decide +kernel
set_option maxRecDepth 100000 in
set_option maxHeartbeats 4000000 in
theorem pm_ki64 : ((pm_p64.all fun q => pm_okI 64 (pm_p64.map Prod.fst) q.1 q.2) && (pm_p64.map Prod.fst).contains 0) = true := by decide +kernel
set_option maxRecDepth 100000 in
set_option maxHeartbeats 4000000 in
theorem pm_km65 : pm_okM 65 639 89 637 638 = true := by decide +kernel
set_option maxRecDepth 100000 in
set_option maxHeartbeats 4000000 in
theorem pm_ki65 : ((pm_p65.all fun q => pm_okI 65 (pm_p65.map Prod.fst) q.1 q.2) && (pm_p65.map Prod.fst).contains 0) = true := by decide +kernel
set_option maxRecDepth 100000 in
set_option maxHeartbeats 4000000 in
theorem pm_km66 : pm_okM 66 693 89 691 692 = true := by decide +kernel
set_option maxRecDepth 100000 in
set_option maxHeartbeats 4000000 in
theorem pm_ki66 : ((pm_p66.all fun q => pm_okI 66 (pm_p66.map Prod.fst) q.1 q.2) && (pm_p66.map Prod.fst).contains 0) = true := by decide +kernel
set_option maxRecDepth 100000 in
set_option maxHeartbeats 4000000 in
theorem pm_km67 : pm_okM 67 704 89 702 703 = true := by decide +kernel
set_option maxRecDepth 100000 in
set_option maxHeartbeats 4000000 in
theorem pm_ki67 : ((pm_p67.all fun q => pm_okI 67 (pm_p67.map Prod.fst) q.1 q.2) && (pm_p67.map Prod.fst).contains 0) = true := by decide +kernel
set_option maxRecDepth 100000 in
set_option maxHeartbeats 4000000 in
theorem pm_km68 : pm_okM 68 716 89 714 715 = true := by decide +kernel
set_option maxRecDepth 100000 in
set_option maxHeartbeats 4000000 in
theorem pm_ki68 : ((pm_p68.all fun q => pm_okI 68 (pm_p68.map Prod.fst) q.1 q.2) && (pm_p68.map Prod.fst).contains 0) = true := by decide +kernel
set_option maxRecDepth 100000 in
set_option maxHeartbeats 4000000 in
theorem pm_km69 : pm_okM 69 723 89 721 722 = true := by decide +kernel
set_option maxRecDepth 100000 in
set_option maxHeartbeats 4000000 in
theorem pm_ki69 : ((pm_p69.all fun q => pm_okI 69 (pm_p69.map Prod.fst) q.1 q.2) && (pm_p69.map Prod.fst).contains 0) = true := by decide +kernel
set_option maxRecDepth 100000 in
set_option maxHeartbeats 4000000 in
theorem pm_km70 : pm_okM 70 731 89 729 730 = true := by decide +kernel
set_option maxRecDepth 100000 in
set_option maxHeartbeats 4000000 in
theorem pm_ki70 : ((pm_p70.all fun q => pm_okI 70 (pm_p70.map Prod.fst) q.1 q.2) && (pm_p70.map Prod.fst).contains 0) = true := by decide +kernel
set_option maxRecDepth 100000 in
set_option maxHeartbeats 4000000 in
theorem pm_km71 : pm_okM 71 744 89 742 743 = true := by decide +kernel
set_option maxRecDepth 100000 in
set_option maxHeartbeats 4000000 in
theorem pm_ki71 : ((pm_p71.all fun q => pm_okI 71 (pm_p71.map Prod.fst) q.1 q.2) && (pm_p71.map Prod.fst).contains 0) = true := by decide +kernel
set_option maxRecDepth 100000 in
set_option maxHeartbeats 4000000 in
theorem pm_km72 : pm_okM 72 415 89 413 414 = true := by decide +kernel
set_option maxRecDepth 100000 in
set_option maxHeartbeats 4000000 in
theorem pm_ki72 : ((pm_p72.all fun q => pm_okI 72 (pm_p72.map Prod.fst) q.1 q.2) && (pm_p72.map Prod.fst).contains 0) = true := by decide +kernel
set_option maxRecDepth 100000 in
set_option maxHeartbeats 4000000 in
theorem pm_km73 : pm_okM 73 419 89 417 418 = true := by decide +kernel
set_option maxRecDepth 100000 in
set_option maxHeartbeats 4000000 in
theorem pm_ki73 : ((pm_p73.all fun q => pm_okI 73 (pm_p73.map Prod.fst) q.1 q.2) && (pm_p73.map Prod.fst).contains 0) = true := by decide +kernel
set_option maxRecDepth 100000 in
set_option maxHeartbeats 4000000 in
theorem pm_km74 : pm_okM 74 757 89 755 756 = true := by decide +kernel
set_option maxRecDepth 100000 in
set_option maxHeartbeats 4000000 in
theorem pm_ki74 : ((pm_p74.all fun q => pm_okI 74 (pm_p74.map Prod.fst) q.1 q.2) && (pm_p74.map Prod.fst).contains 0) = true := by decide +kernel
set_option maxRecDepth 100000 in
set_option maxHeartbeats 4000000 in
theorem pm_km75 : pm_okM 75 779 89 777 778 = true := by decide +kernel
set_option maxRecDepth 100000 in
set_option maxHeartbeats 4000000 in
theorem pm_ki75 : ((pm_p75.all fun q => pm_okI 75 (pm_p75.map Prod.fst) q.1 q.2) && (pm_p75.map Prod.fst).contains 0) = true := by decide +kernel
set_option maxRecDepth 100000 in
set_option maxHeartbeats 4000000 in
theorem pm_km76 : pm_okM 76 790 89 788 789 = true := by decide +kernel
set_option maxRecDepth 100000 in
set_option maxHeartbeats 4000000 in
theorem pm_ki76 : ((pm_p76.all fun q => pm_okI 76 (pm_p76.map Prod.fst) q.1 q.2) && (pm_p76.map Prod.fst).contains 0) = true := by decide +kernel
set_option maxRecDepth 100000 in
set_option maxHeartbeats 4000000 in
theorem pm_km77 : pm_okM 77 799 89 797 798 = true := by decide +kernel
set_option maxRecDepth 100000 in
set_option maxHeartbeats 4000000 in
theorem pm_ki77 : ((pm_p77.all fun q => pm_okI 77 (pm_p77.map Prod.fst) q.1 q.2) && (pm_p77.map Prod.fst).contains 0) = true := by decide +kernel
