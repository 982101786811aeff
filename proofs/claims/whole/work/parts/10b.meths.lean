theorem ci_X0_init : ciB mX0_init 0 275 73 274 = true := by decide +kernel
theorem cv_X0_begin : cvB mX0_begin 0 0 662 73 660 661 = true := by decide +kernel
theorem cv_X0_offer : cvB mX0_offer 0 3 680 73 678 679 = true := by decide +kernel
theorem cv_X0_part : cvB mX0_part 0 1 684 73 682 683 = true := by decide +kernel
theorem ci_X1_init : ciB mX1_init 0 163 69 162 = true := by decide +kernel
theorem cv_X1_add : cvB mX1_add 1 3 515 69 513 514 = true := by decide +kernel
theorem cv_X1_allBits : cvB mX1_allBits 1 0 545 69 543 544 = true := by decide +kernel
theorem cv_X1_drawByLot : cvB mX1_drawByLot 1 3 796 69 794 795 = true := by decide +kernel
theorem cs_X1_following : csB mX1_following 1 799 69 798 = true := by decide +kernel
theorem ci_X2_init : ciB mX2_init 0 314 74 313 = true := by decide +kernel
theorem cv_X2_forgetAnswers : cvB mX2_forgetAnswers 2 0 324 74 322 323 = true := by decide +kernel
theorem cv_X2_neverBits : cvB mX2_neverBits 2 3 739 74 737 738 = true := by decide +kernel
theorem cv_X2_tryWeights : cvB mX2_tryWeights 2 4 770 74 768 769 = true := by decide +kernel
theorem cv_X2_tryStrengths : cvB mX2_tryStrengths 2 4 754 74 752 753 = true := by decide +kernel
theorem cv_X2_tellingMoment : cvB mX2_tellingMoment 2 1 760 74 759 15 = true := by decide +kernel
theorem cv_X2_mostAlike : cvB mX2_mostAlike 2 2 764 74 763 16 = true := by decide +kernel
theorem ci_X3_init : ciB mX3_init 0 265 72 264 = true := by decide +kernel
theorem cv_X3_forgetAnswers : cvB mX3_forgetAnswers 3 0 486 72 484 485 = true := by decide +kernel
theorem cv_X3_bestSwap : cvB mX3_bestSwap 3 2 658 72 656 657 = true := by decide +kernel
theorem cv_X3_bestMoment : cvB mX3_bestMoment 3 3 692 72 690 691 = true := by decide +kernel
theorem cv_X3_bestTraining : cvB mX3_bestTraining 3 2 700 72 698 699 = true := by decide +kernel
theorem ci_X4_init : ciB mX4_init 0 379 76 378 = true := by decide +kernel
theorem cv_X4_renew : cvB mX4_renew 4 2 809 76 807 808 = true := by decide +kernel
theorem cv_X4_whatFails : cvB mX4_whatFails 4 2 824 76 822 823 = true := by decide +kernel
theorem cv_X4_hasRange : cvB mX4_hasRange 4 2 841 76 839 840 = true := by decide +kernel
theorem cv_X4_item : cvB mX4_item 4 1 531 76 529 530 = true := by decide +kernel
theorem cv_X4_setItem : cvB mX4_setItem 4 2 828 76 826 827 = true := by decide +kernel
theorem ci_X5_init : ciB mX5_init 1 209 71 208 = true := by decide +kernel
theorem cv_X5_play : cvB mX5_play 5 4 549 71 547 548 = true := by decide +kernel
theorem cv_X5_begin : cvB mX5_begin 5 0 553 71 552 4 = true := by decide +kernel
theorem cv_X5_gather : cvB mX5_gather 5 3 558 71 557 5 = true := by decide +kernel
theorem cv_X5_sneezing : cvB mX5_sneezing 5 1 565 71 564 6 = true := by decide +kernel
theorem cv_X5_applaud : cvB mX5_applaud 5 1 582 71 581 8 = true := by decide +kernel
theorem cv_X5_climb : cvB mX5_climb 5 2 589 71 588 9 = true := by decide +kernel
theorem cv_X5_bear : cvB mX5_bear 5 1 594 71 593 10 = true := by decide +kernel
theorem cv_X5_tire : cvB mX5_tire 5 1 600 71 599 11 = true := by decide +kernel
theorem cs_X5_tiring : csB mX5_tiring 2 603 71 602 = true := by decide +kernel
theorem cv_X5_topple : cvB mX5_topple 5 3 569 71 568 7 = true := by decide +kernel
theorem cv_X5_keepFacts : cvB mX5_keepFacts 5 2 607 71 606 12 = true := by decide +kernel
theorem cv_X5_stateOf : cvB mX5_stateOf 5 3 611 71 610 13 = true := by decide +kernel
theorem cv_X5_whoIsAt : cvB mX5_whoIsAt 5 3 619 71 617 618 = true := by decide +kernel
theorem ci_X6_init : ciB mX6_init 0 189 70 188 = true := by decide +kernel
theorem cv_X6_add : cvB mX6_add 6 3 727 70 725 726 = true := by decide +kernel
theorem cv_X6_fit : cvB mX6_fit 6 2 745 70 743 744 = true := by decide +kernel
theorem ci_X7_init : ciB mX7_init 0 93 66 92 = true := by decide +kernel
theorem cv_X7_append : cvB mX7_append 7 1 451 66 449 450 = true := by decide +kernel
theorem cv_X7_castInto : cvB mX7_castInto 7 1 459 66 457 458 = true := by decide +kernel
theorem cs_X7_takes : csB mX7_takes 4 469 66 468 = true := by decide +kernel
theorem cs_X7_takesPlace : csB mX7_takesPlace 3 473 66 472 = true := by decide +kernel
theorem ci_X8_init : ciB mX8_init 0 108 67 107 = true := by decide +kernel
theorem cv_X8_dismiss : cvB mX8_dismiss 8 0 463 67 461 462 = true := by decide +kernel
theorem cv_X8_become : cvB mX8_become 8 1 666 67 664 665 = true := by decide +kernel
theorem cv_X8_seat : cvB mX8_seat 8 2 477 67 475 476 = true := by decide +kernel
theorem cv_X8_exchange : cvB mX8_exchange 8 2 673 67 671 672 = true := by decide +kernel
theorem ci_X9_init : ciB mX9_init 0 355 75 354 = true := by decide +kernel
theorem cv_X9_forgetAnswers : cvB mX9_forgetAnswers 9 0 491 75 489 490 = true := by decide +kernel
theorem cv_X9_firstFall : cvB mX9_firstFall 9 3 715 75 714 14 = true := by decide +kernel
theorem cv_X9_fewestToSpare : cvB mX9_fewestToSpare 9 2 709 75 707 708 = true := by decide +kernel
theorem cv_X9_chanceAbove : cvB mX9_chanceAbove 9 4 783 75 781 782 = true := by decide +kernel
theorem cs_X9_shareOf : csB mX9_shareOf 3 786 75 785 = true := by decide +kernel
theorem ci_X10_init : ciB mX10_init 0 85 65 84 = true := by decide +kernel
theorem cv_X10_type : cvB mX10_type 10 1 444 65 442 443 = true := by decide +kernel
theorem cv_X10_wipe : cvB mX10_wipe 10 0 495 65 493 494 = true := by decide +kernel
theorem cv_X10_undo : cvB mX10_undo 10 0 499 65 497 498 = true := by decide +kernel
theorem cv_X10_fault : cvB mX10_fault 10 0 503 65 501 502 = true := by decide +kernel
theorem cv_X10_acrobat : cvB mX10_acrobat 10 2 507 65 505 506 = true := by decide +kernel
theorem cv_X10_event : cvB mX10_event 10 3 511 65 509 510 = true := by decide +kernel
theorem cv_X10_back : cvB mX10_back 10 0 519 65 517 518 = true := by decide +kernel
theorem cv_X10_read : cvB mX10_read 10 1 523 65 521 522 = true := by decide +kernel
theorem cv_X10_at : cvB mX10_at 10 3 537 65 535 536 = true := by decide +kernel
theorem cv_X10_stands : cvB mX10_stands 10 2 615 65 613 614 = true := by decide +kernel
theorem cv_X10_tower : cvB mX10_tower 10 2 623 65 621 622 = true := by decide +kernel
theorem cv_X10_sum : cvB mX10_sum 10 1 633 65 631 632 = true := by decide +kernel
theorem cv_X10_top : cvB mX10_top 10 1 637 65 635 636 = true := by decide +kernel
theorem cv_X10_most : cvB mX10_most 10 1 642 65 640 641 = true := by decide +kernel
theorem cv_X10_clumsy : cvB mX10_clumsy 10 0 646 65 644 645 = true := by decide +kernel
theorem cv_X10_down : cvB mX10_down 10 0 650 65 648 649 = true := by decide +kernel
theorem cv_X10_swap : cvB mX10_swap 10 1 654 65 652 653 = true := by decide +kernel
theorem cv_X10_come : cvB mX10_come 10 2 688 65 686 687 = true := by decide +kernel
theorem cv_X10_train : cvB mX10_train 10 1 696 65 694 695 = true := by decide +kernel
theorem cv_X10_spare : cvB mX10_spare 10 1 705 65 703 704 = true := by decide +kernel
theorem cv_X10_seen : cvB mX10_seen 10 3 723 65 721 722 = true := by decide +kernel
theorem cv_X10_forget : cvB mX10_forget 10 0 731 65 729 730 = true := by decide +kernel
theorem cv_X10_never : cvB mX10_never 10 0 735 65 733 734 = true := by decide +kernel
theorem cv_X10_was : cvB mX10_was 10 2 750 65 748 749 = true := by decide +kernel
theorem cv_X10_ask : cvB mX10_ask 10 1 774 65 772 773 = true := by decide +kernel
theorem cv_X10_chance : cvB mX10_chance 10 3 778 65 776 777 = true := by decide +kernel
theorem cv_X10_years : cvB mX10_years 10 3 792 65 790 791 = true := by decide +kernel
theorem cv_X10_sheet : cvB mX10_sheet 10 3 805 65 803 804 = true := by decide +kernel
theorem cv_X10_lose : cvB mX10_lose 10 1 816 65 814 815 = true := by decide +kernel
theorem cv_X10_put : cvB mX10_put 10 4 820 65 818 819 = true := by decide +kernel
theorem cv_X10_get : cvB mX10_get 10 3 832 65 830 831 = true := by decide +kernel
theorem cv_X10_copy : cvB mX10_copy 10 5 837 65 835 836 = true := by decide +kernel
theorem cv_X10_write : cvB mX10_write 10 2 846 65 844 845 = true := by decide +kernel
theorem cv_X10_count : cvB mX10_count 10 1 852 65 850 851 = true := by decide +kernel
theorem cv_X10_digest : cvB mX10_digest 10 0 858 65 856 857 = true := by decide +kernel
theorem cv_X10_mixedWithAcrobat : cvB mX10_mixedWithAcrobat 10 2 869 65 868 17 = true := by decide +kernel
theorem cs_X10_mixed : csB mX10_mixed 2 863 65 862 = true := by decide +kernel
theorem cs_X10_isWithin : csB mX10_isWithin 2 447 65 446 = true := by decide +kernel
theorem cs_X10_hasBit : csB mX10_hasBit 2 561 65 560 = true := by decide +kernel
theorem cs_X10_height : csB mX10_height 1 627 65 626 = true := by decide +kernel
theorem cv_X10_finding : cvB mX10_finding 10 1 527 65 526 2 = true := by decide +kernel
theorem cv_X10_castAnew : cvB mX10_castAnew 10 0 455 65 454 0 = true := by decide +kernel
theorem cv_X10_forgetAnswers : cvB mX10_forgetAnswers 10 0 482 65 481 1 = true := by decide +kernel
theorem cv_X10_played : cvB mX10_played 10 0 541 65 540 3 = true := by decide +kernel
theorem ci_X11_init : ciB mX11_init 0 891 77 890 = true := by decide +kernel
theorem cs_X11_in : csB mX11_in 3 1063 77 1062 = true := by decide +kernel
theorem cs_X11_isIn : csB mX11_isIn 2 1163 77 1162 = true := by decide +kernel
theorem cs_X11_no : csB mX11_no 1 1351 77 1350 = true := by decide +kernel
theorem cs_X11_lowest : csB mX11_lowest 3 1348 77 1347 = true := by decide +kernel
theorem cs_X11_isMoment : csB mX11_isMoment 1 1090 77 1089 = true := by decide +kernel
theorem cs_X11_isTen : csB mX11_isTen 1 1093 77 1092 = true := by decide +kernel
theorem cs_X11_isTwo : csB mX11_isTwo 1 1205 77 1204 = true := by decide +kernel
theorem cs_X11_isThree : csB mX11_isThree 1 1120 77 1119 = true := by decide +kernel
theorem cv_X11_type : cvB mX11_type 11 1 1060 77 1058 1059 = true := by decide +kernel
theorem cv_X11_wipe : cvB mX11_wipe 11 0 1067 77 1065 1066 = true := by decide +kernel
theorem cv_X11_undo : cvB mX11_undo 11 0 1071 77 1069 1070 = true := by decide +kernel
theorem cv_X11_byteAt : cvB mX11_byteAt 11 1 1087 77 1086 20 = true := by decide +kernel
theorem cv_X11_isTaken : cvB mX11_isTaken 11 2 1097 77 1096 21 = true := by decide +kernel
theorem cv_X11_readsOne : cvB mX11_readsOne 11 2 1083 77 1082 19 = true := by decide +kernel
theorem cv_X11_faultOf : cvB mX11_faultOf 11 0 1079 77 1078 18 = true := by decide +kernel
theorem cv_X11_reads : cvB mX11_reads 11 0 1109 77 1108 23 = true := by decide +kernel
theorem cv_X11_fault : cvB mX11_fault 11 0 1075 77 1073 1074 = true := by decide +kernel
theorem cv_X11_isAcrobat : cvB mX11_isAcrobat 11 1 1105 77 1104 22 = true := by decide +kernel
theorem cv_X11_acrobatOf : cvB mX11_acrobatOf 11 2 1113 77 1112 24 = true := by decide +kernel
theorem cv_X11_acrobat : cvB mX11_acrobat 11 2 1101 77 1099 1100 = true := by decide +kernel
theorem cv_X11_event : cvB mX11_event 11 3 1117 77 1115 1116 = true := by decide +kernel
theorem cv_X11_back : cvB mX11_back 11 0 1124 77 1122 1123 = true := by decide +kernel
theorem cv_X11_read : cvB mX11_read 11 1 1128 77 1126 1127 = true := by decide +kernel
theorem cv_X11_asTold : cvB mX11_asTold 11 0 1152 77 1151 28 = true := by decide +kernel
theorem cs_X11_below : csB mX11_below 1 1174 77 1173 = true := by decide +kernel
theorem cv_X11_isUp : cvB mX11_isUp 11 1 1167 77 1166 31 = true := by decide +kernel
theorem cv_X11_allFall : cvB mX11_allFall 11 1 1171 77 1170 32 = true := by decide +kernel
theorem cv_X11_befalls : cvB mX11_befalls 11 1 1160 77 1159 30 = true := by decide +kernel
theorem cv_X11_lies : cvB mX11_lies 11 2 1182 77 1181 34 = true := by decide +kernel
theorem cv_X11_climbs : cvB mX11_climbs 11 1 1178 77 1177 33 = true := by decide +kernel
theorem cv_X11_bears : cvB mX11_bears 11 0 1186 77 1185 35 = true := by decide +kernel
theorem cv_X11_notes : cvB mX11_notes 11 1 1190 77 1189 36 = true := by decide +kernel
theorem cv_X11_runs : cvB mX11_runs 11 0 1156 77 1155 29 = true := by decide +kernel
theorem cv_X11_runsTold : cvB mX11_runsTold 11 0 1148 77 1147 27 = true := by decide +kernel
theorem cv_X11_atOf : cvB mX11_atOf 11 3 1144 77 1143 26 = true := by decide +kernel
theorem cv_X11_at : cvB mX11_at 11 3 1140 77 1138 1139 = true := by decide +kernel
theorem cv_X11_standsOf : cvB mX11_standsOf 11 2 1198 77 1197 37 = true := by decide +kernel
theorem cv_X11_stands : cvB mX11_stands 11 2 1194 77 1192 1193 = true := by decide +kernel
theorem cv_X11_towerOf : cvB mX11_towerOf 11 2 1209 77 1208 38 = true := by decide +kernel
theorem cv_X11_tower : cvB mX11_tower 11 2 1202 77 1200 1201 = true := by decide +kernel
theorem cv_X11_sumOf : cvB mX11_sumOf 11 1 1217 77 1216 39 = true := by decide +kernel
theorem cv_X11_sum : cvB mX11_sum 11 1 1213 77 1211 1212 = true := by decide +kernel
theorem cv_X11_topOf : cvB mX11_topOf 11 1 1225 77 1224 40 = true := by decide +kernel
theorem cv_X11_top : cvB mX11_top 11 1 1221 77 1219 1220 = true := by decide +kernel
theorem cv_X11_mostOf : cvB mX11_mostOf 11 1 1233 77 1232 41 = true := by decide +kernel
theorem cv_X11_most : cvB mX11_most 11 1 1229 77 1227 1228 = true := by decide +kernel
theorem cv_X11_clumsyOf : cvB mX11_clumsyOf 11 0 1241 77 1240 42 = true := by decide +kernel
theorem cv_X11_clumsy : cvB mX11_clumsy 11 0 1237 77 1235 1236 = true := by decide +kernel
theorem cv_X11_downOf : cvB mX11_downOf 11 0 1249 77 1248 43 = true := by decide +kernel
theorem cv_X11_down : cvB mX11_down 11 0 1245 77 1243 1244 = true := by decide +kernel
theorem cv_X11_starts : cvB mX11_starts 11 0 1261 77 1260 45 = true := by decide +kernel
theorem cv_X11_tries : cvB mX11_tries 11 1 1265 77 1264 46 = true := by decide +kernel
theorem cv_X11_swapOf : cvB mX11_swapOf 11 1 1257 77 1256 44 = true := by decide +kernel
theorem cv_X11_swap : cvB mX11_swap 11 1 1253 77 1251 1252 = true := by decide +kernel
theorem cv_X11_comeOf : cvB mX11_comeOf 11 2 1273 77 1272 47 = true := by decide +kernel
theorem cv_X11_come : cvB mX11_come 11 2 1269 77 1267 1268 = true := by decide +kernel
theorem cv_X11_trainOf : cvB mX11_trainOf 11 1 1281 77 1280 48 = true := by decide +kernel
theorem cv_X11_train : cvB mX11_train 11 1 1277 77 1275 1276 = true := by decide +kernel
theorem cv_X11_isSpared : cvB mX11_isSpared 11 1 1293 77 1292 50 = true := by decide +kernel
theorem cv_X11_spareBy : cvB mX11_spareBy 11 0 1289 77 1288 49 = true := by decide +kernel
theorem cv_X11_ofRow : cvB mX11_ofRow 11 2 1297 77 1296 51 = true := by decide +kernel
theorem cv_X11_spare : cvB mX11_spare 11 1 1285 77 1283 1284 = true := by decide +kernel
theorem cv_X11_seen : cvB mX11_seen 11 3 1301 77 1299 1300 = true := by decide +kernel
theorem cv_X11_forget : cvB mX11_forget 11 0 1305 77 1303 1304 = true := by decide +kernel
theorem cv_X11_isSeen : cvB mX11_isSeen 11 0 1317 77 1316 53 = true := by decide +kernel
theorem cv_X11_neverNow : cvB mX11_neverNow 11 0 1313 77 1312 52 = true := by decide +kernel
theorem cv_X11_never : cvB mX11_never 11 0 1309 77 1307 1308 = true := by decide +kernel
theorem cv_X11_strengthsBy : cvB mX11_strengthsBy 11 1 1325 77 1324 54 = true := by decide +kernel
theorem cv_X11_weightsBy : cvB mX11_weightsBy 11 1 1329 77 1328 55 = true := by decide +kernel
theorem cv_X11_was : cvB mX11_was 11 2 1321 77 1319 1320 = true := by decide +kernel
theorem cv_X11_askOf : cvB mX11_askOf 11 1 1337 77 1336 56 = true := by decide +kernel
theorem cv_X11_ask : cvB mX11_ask 11 1 1333 77 1331 1332 = true := by decide +kernel
theorem cv_X11_chanceOf : cvB mX11_chanceOf 11 3 1345 77 1344 57 = true := by decide +kernel
theorem cv_X11_chance : cvB mX11_chance 11 3 1341 77 1339 1340 = true := by decide +kernel
theorem cv_X11_yearsOf : cvB mX11_yearsOf 11 3 1360 77 1359 58 = true := by decide +kernel
theorem cv_X11_years : cvB mX11_years 11 3 1356 77 1354 1355 = true := by decide +kernel
theorem cv_X11_meets : cvB mX11_meets 11 1 1135 77 1134 25 = true := by decide +kernel
theorem cs_X11_isSheet : csB mX11_isSheet 1 1131 77 1130 = true := by decide +kernel
theorem cv_X11_sheet : cvB mX11_sheet 11 3 1365 77 1363 1364 = true := by decide +kernel
theorem cv_X11_lose : cvB mX11_lose 11 1 1369 77 1367 1368 = true := by decide +kernel
theorem cv_X11_lacks : cvB mX11_lacks 11 3 1377 77 1376 59 = true := by decide +kernel
theorem cv_X11_keep : cvB mX11_keep 11 3 1381 77 1380 60 = true := by decide +kernel
theorem cv_X11_put : cvB mX11_put 11 4 1373 77 1371 1372 = true := by decide +kernel
theorem cv_X11_get : cvB mX11_get 11 3 1385 77 1383 1384 = true := by decide +kernel
theorem cv_X11_copy : cvB mX11_copy 11 5 1390 77 1388 1389 = true := by decide +kernel
theorem cv_X11_write : cvB mX11_write 11 2 1394 77 1392 1393 = true := by decide +kernel
theorem cv_X11_acrobatsOf : cvB mX11_acrobatsOf 11 0 1402 77 1401 61 = true := by decide +kernel
theorem cv_X11_count : cvB mX11_count 11 1 1398 77 1396 1397 = true := by decide +kernel
theorem cv_X11_atDigest : cvB mX11_atDigest 11 3 1417 77 1416 63 = true := by decide +kernel
theorem cv_X11_acrobatDigest : cvB mX11_acrobatDigest 11 2 1413 77 1412 62 = true := by decide +kernel
theorem cv_X11_digest : cvB mX11_digest 11 0 1406 77 1404 1405 = true := by decide +kernel
theorem cs_J6_bitCount_0f7a4 : csB mJ6_bitCount_0f7a4 1 574 79 573 = true := by decide +kernel
theorem cs_J9_max_7cf53 : csB mJ9_max_7cf53 2 585 78 584 = true := by decide +kernel
theorem cs_J9_min_7cf53 : csB mJ9_min_7cf53 2 466 78 465 = true := by decide +kernel
theorem cs_J7_fill_53178 : csB mJ7_fill_53178 2 112 68 111 = true := by decide +kernel
