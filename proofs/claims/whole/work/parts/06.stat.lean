def am_fls : List (String × Nat × Nat × Nat × Nat) := [(RX8, 12, 8, 0, 347),
  (RX8, 19, 8, 1, 348),
  (RX8, 26, 8, 2, 349),
  (RX8, 30, 8, 3, 350),
  (RX8, 36, 8, 4, 351),
  (RX8, 45, 8, 5, 352),
  (RX8, 54, 8, 6, 353),
  (RX8, 61, 8, 7, 354),
  (RX8, 68, 8, 8, 355),
  (RX8, 72, 8, 9, 356),
  (RX8, 76, 8, 10, 357),
  (RX0, 9, 0, 0, 185),
  (RX0, 15, 0, 1, 186),
  (RX0, 18, 0, 2, 187),
  (RX0, 27, 0, 3, 188),
  (RX1, 9, 1, 0, 205),
  (RX2, 9, 2, 0, 306),
  (RX2, 15, 2, 1, 307),
  (RX2, 18, 2, 2, 308),
  (RX2, 21, 2, 3, 309),
  (RX3, 9, 3, 2, 217),
  (RX3, 15, 3, 3, 218),
  (RX3, 19, 3, 4, 219),
  (RX3, 22, 3, 5, 220),
  (RX3, 25, 3, 0, 215),
  (RX3, 29, 3, 1, 216),
  (RX3, 33, 3, 8, 228),
  (RX3, 69, 3, 6, 224),
  (RX3, 72, 3, 7, 226),
  (RX4, 9, 4, 0, 132),
  (RX4, 15, 4, 1, 133),
  (RX4, 18, 4, 2, 134),
  (RX4, 21, 4, 3, 135),
  (RX4, 24, 4, 4, 136),
  (RX4, 27, 4, 5, 137),
  (RX4, 30, 4, 6, 138),
  (RX4, 33, 4, 7, 139),
  (RX4, 37, 4, 8, 142),
  (RX5, 9, 5, 0, 169),
  (RX5, 15, 5, 1, 170),
  (RX6, 9, 6, 0, 328),
  (RX6, 15, 6, 1, 329),
  (RX6, 18, 6, 2, 330),
  (RX6, 27, 6, 4, 333),
  (RX6, 37, 6, 3, 331),
  (RX7, 9, 7, 4, 259),
  (RX7, 15, 7, 5, 260),
  (RX7, 18, 7, 6, 261),
  (RX7, 21, 7, 7, 262),
  (RX7, 24, 7, 8, 263),
  (RX7, 27, 7, 0, 255),
  (RX7, 31, 7, 1, 256),
  (RX7, 35, 7, 2, 257),
  (RX7, 39, 7, 3, 258),
  (RX7, 43, 7, 12, 269),
  (RX7, 47, 7, 13, 270),
  (RX7, 61, 7, 10, 266),
  (RX7, 72, 7, 11, 267),
  (RX7, 79, 7, 9, 265),
  (RX9, 7, 9, 1, 882),
  (RX9, 13, 9, 2, 883),
  (RX9, 16, 9, 3, 884),
  (RX9, 19, 9, 4, 885),
  (RX9, 22, 9, 5, 886),
  (RX9, 25, 9, 7, 888),
  (RX9, 28, 9, 8, 889),
  (RX9, 31, 9, 9, 890),
  (RX9, 34, 9, 10, 891),
  (RX9, 37, 9, 11, 892),
  (RX9, 40, 9, 12, 893),
  (RX9, 43, 9, 13, 894),
  (RX9, 46, 9, 14, 895),
  (RX9, 49, 9, 15, 896),
  (RX9, 52, 9, 17, 898),
  (RX9, 55, 9, 21, 902),
  (RX9, 59, 9, 22, 903),
  (RX9, 62, 9, 23, 904),
  (RX9, 65, 9, 24, 905),
  (RX9, 68, 9, 26, 907),
  (RX9, 71, 9, 28, 909),
  (RX9, 74, 9, 29, 910),
  (RX9, 77, 9, 32, 913),
  (RX9, 80, 9, 33, 914),
  (RX9, 83, 9, 34, 915),
  (RX9, 86, 9, 35, 916),
  (RX9, 95, 9, 0, 881),
  (RX9, 145, 9, 6, 887),
  (RX9, 150, 9, 18, 899),
  (RX9, 162, 9, 19, 900),
  (RX9, 165, 9, 20, 901),
  (RX9, 198, 9, 25, 906),
  (RX9, 223, 9, 27, 908),
  (RX9, 253, 9, 30, 911),
  (RX9, 266, 9, 31, 912),
  (RX9, 278, 9, 16, 897)]
def am_flsN : List (String × Nat × Nat × Nat × Nat) := [(RX8, 88, 4, 7, 140),
  (RX8, 136, 3, 6, 225),
  (RX8, 139, 3, 7, 227),
  (RX8, 142, 3, 5, 222),
  (RX8, 146, 5, 1, 172),
  (RX8, 161, 0, 3, 189),
  (RX8, 195, 7, 11, 268),
  (RX8, 198, 7, 8, 264),
  (RX8, 213, 6, 4, 334),
  (RX8, 268, 6, 3, 332),
  (RX0, 31, 5, 1, 171),
  (RX3, 76, 4, 7, 141),
  (RX7, 50, 3, 6, 223),
  (RX7, 93, 3, 5, 221)]
def am_mls : List (String × Nat × MethodName × Nat) := [(RX8, 80, yX8_within, 385),
  (RX8, 91, yX8_forgetShaped, 392),
  (RX8, 98, yX8_isSide, 412),
  (RX8, 106, yX8_isDay, 424),
  (RX8, 113, yX8_isShape, 438),
  (RX8, 171, yX8_isLetter, 612),
  (RX8, 183, yX8_isWord, 629),
  (RX8, 189, yX8_canBeWorded, 644),
  (RX8, 201, yX8_countOfMaybe, 687),
  (RX8, 204, yX8_mayBe, 691),
  (RX8, 207, yX8_rankOfMaybe, 699),
  (RX8, 216, yX8_renameAll, 707),
  (RX8, 223, yX8_bestHalf, 728),
  (RX8, 226, yX8_lowestFreeWord, 741),
  (RX8, 229, yX8_costOfAsk, 755),
  (RX8, 241, yX8_hasSide, 711),
  (RX8, 248, yX8_keyOfHalves, 733),
  (RX8, 274, yX8_isEdition, 827),
  (RX0, 36, yX0_readItem, 549),
  (RX0, 51, yX0_isItem, 567),
  (RX0, 65, yX0_letterOf, 494),
  (RX0, 68, yX0_itemOn, 490),
  (RX0, 71, yX0_pairOf, 604),
  (RX1, 15, yX1_leftOf, 617),
  (RX1, 19, yX1_letterAs, 636),
  (RX2, 37, yX2_loadOf, 792),
  (RX2, 44, yX2_bestOf, 801),
  (RX3, 61, yX3_isRight, 514),
  (RX3, 65, yX3_findPart, 515),
  (RX3, 79, yX3_isInRight, 524),
  (RX4, 45, yX4_doorsOf, 791),
  (RX4, 49, yX4_allSides, 450),
  (RX4, 58, yX4_walkAll, 453),
  (RX4, 61, yX4_stepsFrom, 457),
  (RX4, 69, yX4_leastWalk, 473),
  (RX4, 73, yX4_nextInRow, 474),
  (RX5, 19, yX5_at, 557),
  (RX6, 40, yX6_sidesWith, 727),
  (RX6, 44, yX6_codeOf, 750),
  (RX6, 53, yX6_isGiven, 874),
  (RX6, 57, yX6_ledTo, 844),
  (RX6, 60, yX6_printed, 843),
  (RX7, 64, yX7_gatherCandidates, 653),
  (RX7, 68, yX7_compareAll, 661),
  (RX7, 75, yX7_choose, 671),
  (RX7, 102, yX7_isChosen, 675),
  (RX7, 105, yX7_harmOfLast, 679),
  (RL, 13, yX8_side, 381),
  (RL, 17, yX9_side, 990),
  (RL, 18, yX8_link, 408),
  (RL, 22, yX9_link, 1005),
  (RL, 23, yX8_doors, 420),
  (RL, 27, yX9_doors, 1013),
  (RL, 28, yX8_walk, 434),
  (RL, 32, yX9_walk, 1025),
  (RL, 33, yX8_row, 465),
  (RL, 36, yX9_row, 1048),
  (RL, 37, yX8_right, 478),
  (RL, 40, yX9_right, 1118),
  (RL, 41, yX8_shaped, 505),
  (RL, 44, yX9_shaped, 1130),
  (RL, 47, yX8_write, 529),
  (RL, 51, yX9_write, 1055),
  (RL, 52, yX8_wipe, 537),
  (RL, 56, yX9_wipe, 1061),
  (RL, 57, yX8_fault, 541),
  (RL, 60, yX9_fault, 1065),
  (RL, 61, yX8_force, 575),
  (RL, 64, yX9_force, 1086),
  (RL, 65, yX8_rule, 586),
  (RL, 68, yX9_rule, 1090),
  (RL, 69, yX8_why, 591),
  (RL, 72, yX9_why, 1106),
  (RL, 73, yX8_quarrel, 596),
  (RL, 76, yX9_quarrel, 1110),
  (RL, 77, yX8_misread, 608),
  (RL, 80, yX9_misread, 1142),
  (RL, 81, yX8_read, 625),
  (RL, 84, yX9_read, 1151),
  (RL, 85, yX8_words, 640),
  (RL, 88, yX9_words, 1167),
  (RL, 89, yX8_who, 683),
  (RL, 92, yX9_who, 1184),
  (RL, 93, yX8_give, 703),
  (RL, 96, yX9_give, 1192),
  (RL, 97, yX8_split, 719),
  (RL, 100, yX9_split, 1200),
  (RL, 101, yX8_ask, 751),
  (RL, 104, yX9_ask, 1215),
  (RL, 105, yX8_pass, 766),
  (RL, 108, yX9_pass, 1230),
  (RL, 109, yX8_code, 770),
  (RL, 112, yX9_code, 1234),
  (RL, 113, yX8_lead, 774),
  (RL, 116, yX9_lead, 1238),
  (RL, 117, yX8_rounds, 778),
  (RL, 120, yX9_rounds, 1242),
  (RL, 121, yX8_fullYear, 810),
  (RL, 124, yX9_fullYear, 1255),
  (RL, 125, yX8_edition, 814),
  (RL, 128, yX9_edition, 1259),
  (RL, 129, yX8_book, 823),
  (RL, 132, yX9_book, 1263),
  (RL, 133, yX8_wrong, 835),
  (RL, 136, yX9_wrong, 1267),
  (RL, 137, yX8_keep, 846),
  (RL, 140, yX9_keep, 1271),
  (RL, 141, yX8_back, 854),
  (RL, 144, yX9_back, 1279),
  (RL, 145, yX8_count, 858),
  (RL, 148, yX9_count, 1283),
  (RX9, 91, yX9_in, 995),
  (RX9, 99, yX9_all, 1033),
  (RX9, 111, yX9_areGiven, 1001),
  (RX9, 115, yX9_isSide, 1009),
  (RX9, 119, yX9_isDay, 1017),
  (RX9, 122, yX9_doorsAt, 1021),
  (RX9, 126, yX9_has, 1041),
  (RX9, 130, yX9_isShape, 1029),
  (RX9, 133, yX9_layFrom, 1037),
  (RX9, 136, yX9_walkOf, 1044),
  (RX9, 140, yX9_bits, 1052),
  (RX9, 159, yX9_number, 1077),
  (RX9, 172, yX9_item, 1073),
  (RX9, 175, yX9_readAll, 1069),
  (RX9, 178, yX9_letterOf, 1103),
  (RX9, 181, yX9_whyOf, 1099),
  (RX9, 186, yX9_ruleOf, 1095),
  (RX9, 189, yX9_quarrels, 1114),
  (RX9, 192, yX9_doorsIn, 1126),
  (RX9, 195, yX9_isRight, 1122),
  (RX9, 201, yX9_layShapes, 1134),
  (RX9, 204, yX9_bar, 1138),
  (RX9, 209, yX9_missed, 1147),
  (RX9, 212, yX9_readLetter, 1163),
  (RX9, 217, yX9_isWord, 1155),
  (RX9, 220, yX9_readAs, 1159),
  (RX9, 226, yX9_mayStand, 1176),
  (RX9, 229, yX9_areLinked, 1180),
  (RX9, 234, yX9_layWords, 1172),
  (RX9, 237, yX9_isAlive, 1188),
  (RX9, 240, yX9_get, 1196),
  (RX9, 244, yX9_codeOf, 1204),
  (RX9, 247, yX9_size, 1208),
  (RX9, 250, yX9_leadOf, 1211),
  (RX9, 257, yX9_isAsk, 1220),
  (RX9, 262, yX9_mayPass, 1225),
  (RX9, 271, yX9_layCodes, 1247),
  (RX9, 275, yX9_weightOf, 1251),
  (RX9, 281, yX9_copy, 1275)]
def am_mlsN : List (String × Nat × MethodName × Nat) := [(RX8, 84, yX6_isGiven, 388),
  (RX8, 94, yX4_add, 404),
  (RX8, 102, yX4_setLink, 416),
  (RX8, 109, yX4_doorsOf, 427),
  (RX8, 116, yX4_leastWalk, 446),
  (RX8, 121, yX4_sideInRow, 469),
  (RX8, 124, yX3_isRight, 482),
  (RX8, 128, yX3_shapeOn, 509),
  (RX8, 132, yX3_bar, 520),
  (RX8, 149, yX5_append, 533),
  (RX8, 153, yX0_readFrom, 545),
  (RX8, 157, yX0_copy, 579),
  (RX8, 162, yX0_valueOn, 590),
  (RX8, 165, yX0_itemOn, 595),
  (RX8, 168, yX0_areAtOdds, 600),
  (RX8, 174, yX1_hasRoom, 613),
  (RX8, 177, yX7_forget, 400),
  (RX8, 180, yX1_set, 621),
  (RX8, 186, yX1_readAs, 632),
  (RX8, 192, yX7_findWords, 648),
  (RX8, 210, yX6_sidesWith, 695),
  (RX8, 220, yX6_codeOf, 723),
  (RX8, 235, yX6_wordOf, 760),
  (RX8, 238, yX6_ledTo, 746),
  (RX8, 244, yX6_rename, 712),
  (RX8, 257, yX0_allowsWord, 745),
  (RX8, 260, yX2_weigh, 782),
  (RX8, 264, yX2_fewest, 797),
  (RX8, 271, yX6_print, 818),
  (RX8, 277, yX6_printed, 831),
  (RX8, 280, yX6_isMisprinted, 839),
  (RX8, 283, yX6_copy, 850),
  (RX8, 286, yX4_countLinks, 862),
  (RX8, 289, yX6_countCodes, 866),
  (RX8, 292, yX6_countOldWords, 870),
  (RX8, 295, yX4_allSides, 442),
  (RX8, 298, yX3_forget, 396),
  (RX0, 40, yX5_endOfFigures, 553),
  (RX0, 44, yX5_at, 562),
  (RX0, 47, yX5_number, 563),
  (RX0, 55, yX8_within, 570),
  (RX0, 58, yX8_isDay, 571),
  (RX0, 62, yX8_isLetter, 572),
  (RX0, 74, yX8_hasSide, 504),
  (RX2, 25, yX6_codeOf, 786),
  (RX2, 31, yX4_weightOf, 787),
  (RX2, 40, yX8_hasSide, 796),
  (RX3, 37, yX0_valueOn, 486),
  (RX3, 43, yX4_leastWalk, 497),
  (RX3, 50, yX4_doorsOf, 499),
  (RX3, 53, yX0_allowsShape, 500),
  (RX3, 57, yX4_allSides, 513),
  (RX3, 82, yX8_hasSide, 528),
  (RX4, 41, yX8_hasSide, 431),
  (RX4, 53, yX8_within, 451),
  (RX5, 23, yX8_within, 561),
  (RX6, 63, yX8_hasSide, 845),
  (RX7, 82, yX0_allowsWord, 657),
  (RX7, 88, yX1_readAs, 665),
  (RX7, 96, yX4_areLinked, 666)]
def am_cps : List (String × Nat × Nat) := [(RX0, 21, 583), (RX6, 31, 822)]
def am_mths : List (String × Nat × Nat × Nat) := [(RX8, 251, 5, 737), (RX2, 49, 3, 807), (RX2, 54, 4, 808), (RX4, 64, 4, 461), (RX6, 47, 3, 716), (RX7, 55, 4, 652)]
def am_csts : List (String × Nat × Int32 × Nat) := [(RX8, 120, 1000000, 464), (RX8, 232, (-1000000), 759), (RX8, 233, (-1000002), 764), (RX8, 234, (-100000), 765), (RX8, 247, 2000000000, 732), (RX8, 256, 100000, 740), (RX8, 267, 100000000, 809), (RX2, 47, 100000000, 805), (RX2, 48, 1000000, 806), (RX3, 49, 1000000, 498), (RX3, 75, 100000000, 519), (RX4, 57, 1000000, 452), (RX7, 71, 1000000, 670), (RX9, 256, (-1000000), 1219), (RX9, 261, (-1000002), 1224), (RX9, 265, (-100000), 1229)]
def am_cstLs : List (String × Nat × Int64 × Nat) := [(RL, 45, 4294967295, 1287), (RX9, 89, 14600, 1020), (RX9, 103, 200, 994), (RX9, 105, 20, 998), (RX9, 107, 500, 999), (RX9, 109, 50, 1000), (RX9, 143, 8, 1059), (RX9, 148, 255, 1060), (RX9, 153, 48, 1081), (RX9, 155, 57, 1082), (RX9, 157, 5, 1083), (RX9, 168, 9999, 1084), (RX9, 170, 40, 1085), (RX9, 184, 2, 1094), (RX9, 207, 99, 1146), (RX9, 215, 35, 1158), (RX9, 232, 4, 1171), (RX9, 269, 1000000, 1246)]
abbrev Inf : Type := MethodName × ByteArray × Nat × Option FieldType × Nat × Nat × Nat × Nat × Nat × Nat × Nat
noncomputable def am_inf_0 : List Inf := [(yL_law, code, 0, none, 0, 3, 0, 0, 0, 0, 0),
  (yX0_copy, cX0_copy, 2, none, 1, 0, 1, 582, 108, 581, 29),
  (yX0_readFrom, cX0_readFrom, 4, some .int, 4, 0, 1, 548, 108, 547, 24),
  (yX0_readItem, cX0_readItem, 8, some .int, 3, 0, 2, 552, 108, 551, 25),
  (yX0_isItem, cX0_isItem, 3, some .boolean, 2, 1, 3, 569, 108, 568, 0),
  (yX0_letterOf, cX0_letterOf, 1, some .int, 0, 1, 1, 496, 108, 495, 0),
  (yX0_itemOn, cX0_itemOn, 5, some .int, 1, 0, 2, 493, 108, 492, 17),
  (yX0_valueOn, cX0_valueOn, 4, some .int, 2, 0, 2, 489, 108, 488, 16),
  (yX0_areAtOdds, cX0_areAtOdds, 6, some .boolean, 1, 0, 2, 603, 108, 602, 30),
  (yX0_pairOf, cX0_pairOf, 2, some .int, 0, 0, 1, 607, 108, 606, 31),
  (yX0_allowsWord, cX0_allowsWord, 4, some .boolean, 1, 0, 1, 660, 108, 659, 40),
  (yX0_allowsShape, cX0_allowsShape, 5, some .boolean, 1, 0, 1, 503, 108, 502, 18),
  (yX1_hasRoom, cX1_hasRoom, 4, some .boolean, 1, 0, 3, 616, 109, 615, 32),
  (yX1_set, cX1_set, 5, some .int, 0, 0, 3, 624, 109, 623, 34)]
noncomputable def am_inf_1 : List Inf := [(yX1_leftOf, cX1_leftOf, 4, some .int, 0, 0, 1, 620, 109, 619, 33),
  (yX1_letterAs, cX1_letterAs, 3, some .int, 1, 0, 2, 639, 109, 638, 36),
  (yX1_readAs, cX1_readAs, 3, some .int, 2, 0, 2, 635, 109, 634, 35),
  (yX2_weigh, cX2_weigh, 6, none, 3, 0, 3, 785, 112, 784, 59),
  (yX2_loadOf, cX2_loadOf, 4, some .int, 1, 0, 1, 795, 112, 794, 61),
  (yX2_fewest, cX2_fewest, 4, some .int, 2, 0, 1, 800, 112, 799, 62),
  (yX2_bestOf, cX2_bestOf, 10, some .int, 1, 0, 2, 804, 112, 803, 63),
  (yX3_forget, cX3_forget, 1, none, 0, 0, 0, 399, 110, 398, 2),
  (yX3_isRight, cX3_isRight, 4, some .boolean, 3, 0, 2, 485, 110, 484, 15),
  (yX3_shapeOn, cX3_shapeOn, 5, none, 4, 0, 1, 512, 110, 511, 19),
  (yX3_findPart, cX3_findPart, 10, none, 3, 0, 1, 518, 110, 517, 20),
  (yX3_bar, cX3_bar, 2, some .int, 2, 0, 0, 523, 110, 522, 21),
  (yX3_isInRight, cX3_isInRight, 3, some .boolean, 1, 0, 1, 527, 110, 526, 22),
  (yX4_add, cX4_add, 5, some .int, 0, 0, 4, 407, 106, 406, 4)]
noncomputable def am_inf_2 : List Inf := [(yX4_setLink, cX4_setLink, 5, some .int, 0, 0, 3, 419, 106, 418, 6),
  (yX4_countLinks, cX4_countLinks, 4, some .int, 0, 0, 0, 865, 106, 864, 69),
  (yX4_allSides, cX4_allSides, 1, some .int, 0, 0, 0, 445, 106, 444, 9),
  (yX4_doorsOf, cX4_doorsOf, 5, some .int, 1, 0, 2, 430, 106, 429, 7),
  (yX4_weightOf, cX4_weightOf, 5, some .int, 2, 0, 2, 790, 106, 789, 60),
  (yX4_areLinked, cX4_areLinked, 5, some .boolean, 1, 0, 2, 669, 106, 668, 42),
  (yX4_leastWalk, cX4_leastWalk, 2, some .int, 2, 0, 1, 449, 106, 448, 10),
  (yX4_walkAll, cX4_walkAll, 5, none, 1, 0, 0, 456, 106, 455, 11),
  (yX4_stepsFrom, cX4_stepsFrom, 9, some .int, 0, 0, 2, 460, 106, 459, 12),
  (yX4_sideInRow, cX4_sideInRow, 8, some .int, 3, 0, 2, 472, 106, 471, 13),
  (yX4_nextInRow, cX4_nextInRow, 7, some .int, 1, 0, 3, 477, 106, 476, 14),
  (yX5_append, cX5_append, 5, none, 0, 0, 2, 536, 107, 535, 23),
  (yX5_at, cX5_at, 2, some .int, 0, 0, 1, 560, 107, 559, 27),
  (yX5_endOfFigures, cX5_endOfFigures, 3, some .int, 1, 0, 1, 556, 107, 555, 26)]
noncomputable def am_inf_3 : List Inf := [(yX5_number, cX5_number, 5, some .int, 1, 0, 2, 566, 107, 565, 28),
  (yX6_copy, cX6_copy, 2, none, 1, 0, 1, 853, 113, 852, 68),
  (yX6_isGiven, cX6_isGiven, 1, some .boolean, 0, 0, 0, 391, 113, 390, 0),
  (yX6_wordOf, cX6_wordOf, 2, some .int, 0, 0, 1, 763, 113, 762, 58),
  (yX6_sidesWith, cX6_sidesWith, 4, some .int, 0, 0, 1, 698, 113, 697, 48),
  (yX6_codeOf, cX6_codeOf, 2, some .int, 1, 0, 1, 726, 113, 725, 52),
  (yX6_ledTo, cX6_ledTo, 5, some .int, 2, 0, 2, 749, 113, 748, 56),
  (yX6_rename, cX6_rename, 6, none, 1, 0, 3, 715, 113, 714, 51),
  (yX6_countCodes, cX6_countCodes, 3, some .int, 1, 0, 0, 869, 113, 868, 70),
  (yX6_countOldWords, cX6_countOldWords, 3, some .int, 3, 0, 0, 873, 113, 872, 71),
  (yX6_print, cX6_print, 1, some .int, 1, 0, 0, 821, 113, 820, 64),
  (yX6_printed, cX6_printed, 3, some .int, 0, 0, 2, 834, 113, 833, 66),
  (yX6_isMisprinted, cX6_isMisprinted, 5, some .boolean, 3, 0, 3, 842, 113, 841, 67),
  (yX7_forget, cX7_forget, 1, none, 0, 0, 0, 403, 111, 402, 3)]
noncomputable def am_inf_4 : List Inf := [(yX7_findWords, cX7_findWords, 3, some .boolean, 6, 0, 2, 651, 111, 650, 38),
  (yX7_gatherCandidates, cX7_gatherCandidates, 4, none, 2, 0, 1, 656, 111, 655, 39),
  (yX7_compareAll, cX7_compareAll, 4, none, 3, 0, 0, 664, 111, 663, 41),
  (yX7_choose, cX7_choose, 4, none, 1, 0, 2, 674, 111, 673, 43),
  (yX7_choose, cX7_choose, 4, none, 2, 0, 2, 674, 111, 673, 43),
  (yX7_choose, cX7_choose, 4, none, 3, 0, 2, 674, 111, 673, 43),
  (yX7_choose, cX7_choose, 4, none, 4, 0, 2, 674, 111, 673, 43),
  (yX7_choose, cX7_choose, 4, none, 5, 0, 2, 674, 111, 673, 43),
  (yX7_isChosen, cX7_isChosen, 4, some .boolean, 0, 0, 2, 678, 111, 677, 44),
  (yX7_harmOfLast, cX7_harmOfLast, 4, some .int, 0, 0, 1, 682, 111, 681, 45),
  (yX8_side, cX8_side, 5, some .int, 2, 0, 4, 384, 105, 382, 383),
  (yX8_link, cX8_link, 4, some .int, 2, 0, 3, 411, 105, 409, 410),
  (yX8_doors, cX8_doors, 3, some .int, 2, 0, 2, 423, 105, 421, 422),
  (yX8_walk, cX8_walk, 3, some .int, 3, 0, 1, 437, 105, 435, 436)]
noncomputable def am_inf_5 : List Inf := [(yX8_row, cX8_row, 3, some .int, 4, 0, 2, 468, 105, 466, 467),
  (yX8_right, cX8_right, 3, some .int, 4, 0, 2, 481, 105, 479, 480),
  (yX8_shaped, cX8_shaped, 3, some .int, 5, 0, 2, 508, 105, 506, 507),
  (yX8_write, cX8_write, 4, some .int, 1, 0, 2, 532, 105, 530, 531),
  (yX8_wipe, cX8_wipe, 2, some .int, 0, 0, 0, 540, 105, 538, 539),
  (yX8_fault, cX8_fault, 2, some .int, 5, 0, 0, 544, 105, 542, 543),
  (yX8_force, cX8_force, 1, some .int, 5, 0, 0, 578, 105, 576, 577),
  (yX8_rule, cX8_rule, 3, some .int, 3, 0, 2, 589, 105, 587, 588),
  (yX8_why, cX8_why, 4, some .int, 2, 0, 2, 594, 105, 592, 593),
  (yX8_quarrel, cX8_quarrel, 3, some .int, 2, 0, 0, 599, 105, 597, 598),
  (yX8_misread, cX8_misread, 4, some .int, 2, 0, 3, 611, 105, 609, 610),
  (yX8_read, cX8_read, 3, some .int, 3, 0, 2, 628, 105, 626, 627),
  (yX8_words, cX8_words, 4, some .int, 7, 0, 3, 643, 105, 641, 642),
  (yX8_who, cX8_who, 4, some .int, 5, 0, 2, 686, 105, 684, 685)]
noncomputable def am_inf_6 : List Inf := [(yX8_mayBe, cX8_mayBe, 3, some .boolean, 3, 0, 2, 694, 105, 693, 47),
  (yX8_countOfMaybe, cX8_countOfMaybe, 4, some .int, 4, 0, 1, 690, 105, 689, 46),
  (yX8_rankOfMaybe, cX8_rankOfMaybe, 7, some .int, 4, 0, 2, 702, 105, 701, 49),
  (yX8_give, cX8_give, 4, some .int, 7, 0, 2, 706, 105, 704, 705),
  (yX8_split, cX8_split, 6, some .int, 5, 0, 2, 722, 105, 720, 721),
  (yX8_ask, cX8_ask, 4, some .int, 5, 0, 3, 754, 105, 752, 753),
  (yX8_pass, cX8_pass, 6, some .int, 5, 0, 3, 769, 105, 767, 768),
  (yX8_code, cX8_code, 4, some .int, 2, 0, 2, 773, 105, 771, 772),
  (yX8_lead, cX8_lead, 4, some .int, 3, 0, 2, 777, 105, 775, 776),
  (yX8_renameAll, cX8_renameAll, 6, none, 3, 0, 3, 710, 105, 709, 50),
  (yX8_bestHalf, cX8_bestHalf, 10, some .int, 4, 0, 2, 731, 105, 730, 53),
  (yX8_keyOfHalves, cX8_keyOfHalves, 5, some .int, 3, 0, 3, 736, 105, 735, 54),
  (yX8_lowestFreeWord, cX8_lowestFreeWord, 3, some .int, 3, 0, 1, 744, 105, 743, 55),
  (yX8_costOfAsk, cX8_costOfAsk, 9, some .int, 4, 0, 3, 758, 105, 757, 57)]
noncomputable def am_inf_7 : List Inf := [(yX8_rounds, cX8_rounds, 5, some .int, 4, 0, 3, 781, 105, 779, 780),
  (yX8_fullYear, cX8_fullYear, 6, some .int, 3, 0, 2, 813, 105, 811, 812),
  (yX8_edition, cX8_edition, 1, some .int, 2, 0, 0, 817, 105, 815, 816),
  (yX8_book, cX8_book, 3, some .int, 2, 0, 2, 826, 105, 824, 825),
  (yX8_wrong, cX8_wrong, 5, some .int, 4, 0, 2, 838, 105, 836, 837),
  (yX8_keep, cX8_keep, 1, some .int, 2, 0, 0, 849, 105, 847, 848),
  (yX8_back, cX8_back, 1, some .int, 2, 0, 0, 857, 105, 855, 856),
  (yX8_count, cX8_count, 2, some .int, 4, 0, 1, 861, 105, 859, 860),
  (yX8_within, cX8_within, 3, some .boolean, 0, 1, 3, 387, 105, 386, 0),
  (yX8_isDay, cX8_isDay, 1, some .boolean, 1, 1, 1, 426, 105, 425, 0),
  (yX8_isLetter, cX8_isLetter, 1, some .boolean, 1, 1, 1, 574, 105, 573, 0),
  (yX8_isWord, cX8_isWord, 1, some .boolean, 1, 1, 1, 631, 105, 630, 0),
  (yX8_hasSide, cX8_hasSide, 2, some .boolean, 0, 1, 2, 433, 105, 432, 0),
  (yX8_isSide, cX8_isSide, 2, some .boolean, 1, 0, 1, 415, 105, 414, 5)]
noncomputable def am_inf_8 : List Inf := [(yX8_isShape, cX8_isShape, 2, some .boolean, 1, 0, 1, 441, 105, 440, 8),
  (yX8_isEdition, cX8_isEdition, 2, some .boolean, 1, 0, 1, 830, 105, 829, 65),
  (yX8_canBeWorded, cX8_canBeWorded, 2, some .boolean, 5, 0, 1, 647, 105, 646, 37),
  (yX8_forgetShaped, cX8_forgetShaped, 1, none, 1, 0, 0, 395, 105, 394, 1),
  (yX9_in, cX9_in, 6, some .boolean, 0, 1, 3, 997, 115, 996, 0),
  (yX9_has, cX9_has, 2, some .boolean, 0, 1, 2, 1043, 115, 1042, 0),
  (yX9_bits, cX9_bits, 3, some .int, 0, 1, 1, 1054, 115, 1053, 0),
  (yX9_isDay, cX9_isDay, 1, some .boolean, 1, 1, 1, 1019, 115, 1018, 0),
  (yX9_isSide, cX9_isSide, 2, some .boolean, 1, 0, 1, 1012, 115, 1011, 73),
  (yX9_all, cX9_all, 1, some .int, 0, 0, 0, 1036, 115, 1035, 76),
  (yX9_isShape, cX9_isShape, 2, some .boolean, 1, 0, 1, 1032, 115, 1031, 75),
  (yX9_areGiven, cX9_areGiven, 3, some .boolean, 0, 0, 0, 1004, 115, 1003, 72),
  (yX9_side, cX9_side, 5, some .int, 1, 0, 4, 993, 115, 991, 992),
  (yX9_link, cX9_link, 5, some .int, 2, 0, 3, 1008, 115, 1006, 1007)]
noncomputable def am_inf_9 : List Inf := [(yX9_doorsAt, cX9_doorsAt, 3, some .int, 0, 0, 2, 1024, 115, 1023, 74),
  (yX9_doors, cX9_doors, 3, some .int, 2, 0, 2, 1016, 115, 1014, 1015),
  (yX9_doorsIn, cX9_doorsIn, 5, some .int, 1, 0, 2, 1129, 115, 1128, 86),
  (yX9_layFrom, cX9_layFrom, 7, none, 1, 0, 0, 1040, 115, 1039, 77),
  (yX9_walkOf, cX9_walkOf, 6, some .int, 1, 0, 1, 1047, 115, 1046, 78),
  (yX9_walk, cX9_walk, 2, some .int, 2, 0, 1, 1028, 115, 1026, 1027),
  (yX9_row, cX9_row, 11, some .int, 2, 0, 2, 1051, 115, 1049, 1050),
  (yX9_write, cX9_write, 5, some .int, 1, 0, 2, 1058, 115, 1056, 1057),
  (yX9_wipe, cX9_wipe, 2, some .int, 0, 0, 0, 1064, 115, 1062, 1063),
  (yX9_number, cX9_number, 4, some .int, 1, 0, 1, 1080, 115, 1079, 81),
  (yX9_item, cX9_item, 2, some .boolean, 2, 0, 0, 1076, 115, 1075, 80),
  (yX9_readAll, cX9_readAll, 3, some .int, 3, 0, 0, 1072, 115, 1071, 79),
  (yX9_fault, cX9_fault, 1, some .int, 4, 0, 0, 1068, 115, 1066, 1067),
  (yX9_force, cX9_force, 2, some .int, 4, 0, 0, 1089, 115, 1087, 1088)]
noncomputable def am_inf_10 : List Inf := [(yX9_letterOf, cX9_letterOf, 1, some .int, 0, 1, 1, 1105, 115, 1104, 0),
  (yX9_whyOf, cX9_whyOf, 5, some .int, 1, 0, 2, 1102, 115, 1101, 83),
  (yX9_ruleOf, cX9_ruleOf, 4, some .int, 2, 0, 2, 1098, 115, 1097, 82),
  (yX9_rule, cX9_rule, 3, some .int, 3, 0, 2, 1093, 115, 1091, 1092),
  (yX9_why, cX9_why, 3, some .int, 2, 0, 2, 1109, 115, 1107, 1108),
  (yX9_quarrels, cX9_quarrels, 9, some .boolean, 0, 0, 2, 1117, 115, 1116, 84),
  (yX9_quarrel, cX9_quarrel, 3, some .int, 1, 0, 0, 1113, 115, 1111, 1112),
  (yX9_isRight, cX9_isRight, 8, some .boolean, 3, 0, 2, 1125, 115, 1124, 85),
  (yX9_right, cX9_right, 3, some .int, 4, 0, 2, 1121, 115, 1119, 1120),
  (yX9_layShapes, cX9_layShapes, 8, some .boolean, 4, 0, 1, 1137, 115, 1136, 87),
  (yX9_bar, cX9_bar, 4, some .int, 1, 0, 0, 1141, 115, 1140, 88),
  (yX9_shaped, cX9_shaped, 4, some .int, 5, 0, 2, 1133, 115, 1131, 1132),
  (yX9_missed, cX9_missed, 4, some .int, 0, 0, 1, 1150, 115, 1149, 89),
  (yX9_misread, cX9_misread, 5, some .int, 1, 0, 3, 1145, 115, 1143, 1144)]
noncomputable def am_inf_11 : List Inf := [(yX9_readLetter, cX9_readLetter, 3, some .int, 1, 0, 2, 1166, 115, 1165, 91),
  (yX9_readAs, cX9_readAs, 3, some .int, 2, 0, 2, 1162, 115, 1161, 90),
  (yX9_isWord, cX9_isWord, 1, some .boolean, 1, 1, 1, 1157, 115, 1156, 0),
  (yX9_read, cX9_read, 3, some .int, 3, 0, 2, 1154, 115, 1152, 1153),
  (yX9_mayStand, cX9_mayStand, 9, some .boolean, 0, 0, 1, 1179, 115, 1178, 93),
  (yX9_areLinked, cX9_areLinked, 6, some .boolean, 1, 0, 2, 1183, 115, 1182, 94),
  (yX9_layWords, cX9_layWords, 10, some .boolean, 3, 0, 1, 1175, 115, 1174, 92),
  (yX9_words, cX9_words, 4, some .int, 5, 0, 3, 1170, 115, 1168, 1169),
  (yX9_isAlive, cX9_isAlive, 4, some .boolean, 0, 0, 1, 1191, 115, 1190, 95),
  (yX9_who, cX9_who, 9, some .int, 3, 0, 2, 1187, 115, 1185, 1186),
  (yX9_codeOf, cX9_codeOf, 4, some .int, 0, 0, 1, 1207, 115, 1206, 97),
  (yX9_get, cX9_get, 6, none, 3, 0, 3, 1199, 115, 1198, 96),
  (yX9_give, cX9_give, 5, some .int, 5, 0, 2, 1195, 115, 1193, 1194),
  (yX9_leadOf, cX9_leadOf, 6, some .int, 1, 0, 2, 1214, 115, 1213, 98)]
noncomputable def am_inf_12 : List Inf := [(yX9_size, cX9_size, 1, some .int, 0, 1, 1, 1210, 115, 1209, 0),
  (yX9_split, cX9_split, 11, some .int, 4, 0, 2, 1203, 115, 1201, 1202),
  (yX9_mayPass, cX9_mayPass, 8, some .boolean, 4, 0, 3, 1228, 115, 1227, 100),
  (yX9_isAsk, cX9_isAsk, 4, some .boolean, 0, 0, 3, 1223, 115, 1222, 99),
  (yX9_ask, cX9_ask, 4, some .int, 5, 0, 3, 1218, 115, 1216, 1217),
  (yX9_pass, cX9_pass, 4, some .int, 5, 0, 3, 1233, 115, 1231, 1232),
  (yX9_code, cX9_code, 3, some .int, 2, 0, 2, 1237, 115, 1235, 1236),
  (yX9_lead, cX9_lead, 4, some .int, 2, 0, 2, 1241, 115, 1239, 1240),
  (yX9_layCodes, cX9_layCodes, 5, none, 1, 0, 1, 1250, 115, 1249, 101),
  (yX9_weightOf, cX9_weightOf, 4, some .int, 1, 0, 1, 1254, 115, 1253, 102),
  (yX9_rounds, cX9_rounds, 9, some .int, 2, 0, 3, 1245, 115, 1243, 1244),
  (yX9_fullYear, cX9_fullYear, 4, some .int, 3, 0, 2, 1258, 115, 1256, 1257),
  (yX9_edition, cX9_edition, 2, some .int, 1, 0, 0, 1262, 115, 1260, 1261),
  (yX9_book, cX9_book, 4, some .int, 2, 0, 2, 1266, 115, 1264, 1265)]
noncomputable def am_inf_13 : List Inf := [(yX9_wrong, cX9_wrong, 7, some .int, 2, 0, 2, 1270, 115, 1268, 1269),
  (yX9_copy, cX9_copy, 4, none, 0, 0, 2, 1278, 115, 1277, 103),
  (yX9_keep, cX9_keep, 1, some .int, 1, 0, 0, 1274, 115, 1272, 1273),
  (yX9_back, cX9_back, 1, some .int, 1, 0, 0, 1282, 115, 1280, 1281),
  (yX9_count, cX9_count, 5, some .int, 2, 0, 1, 1286, 115, 1284, 1285),
  (yL_law, code, 4, some .boolean, 8, 2, 1, 0, 0, 0, 0)]
noncomputable def am_infs : List (List Inf) := [am_inf_0, am_inf_1, am_inf_2, am_inf_3, am_inf_4, am_inf_5, am_inf_6, am_inf_7, am_inf_8, am_inf_9, am_inf_10, am_inf_11, am_inf_12, am_inf_13]
noncomputable def am_inf (m : Nat) : Option Inf := match am_nth am_infs (m / 14) with
  | none => none
  | some c => am_nth c (m % 14)
def am_GW : List Cond := lw_tbl.filter goodWord
def am_in (i : Nat) (w : Cond) : Bool := decide (lw_tbl[i]? = some w) && goodWord w
theorem am_in_ok {i : Nat} {w : Cond} (h : am_in i w = true) : w ∈ am_GW := by
  simp only [am_in, Bool.and_eq_true, decide_eq_true_eq] at h
  exact List.mem_filter.mpr ⟨List.mem_of_getElem? h.1, h.2⟩
theorem am_good {ws : List Cond} (h : ∀ w ∈ ws, w ∈ am_GW) : GoodIn am_GW ws := fun w hw => ⟨h w hw, good_of_word (List.mem_filter.mp (h w hw)).2⟩
def am_C (ci : Nat) : vw_C := vwCl.getD ci (RX0, TX0, 4)
def am_fw (own : String) (idx ci k : Nat) : Cond := .fieldLink own idx ((am_C ci).2.1 k).1 ((am_C ci).2.1 k).2.1 ((am_C ci).2.1 k).2.2.1
def am_fwN (own : String) (idx ci k : Nat) : Cond := .fieldLinkNest own idx ((am_C ci).2.1 k).1 ((am_C ci).2.1 k).2.1 ((am_C ci).2.1 k).2.2.1 RX8
set_option maxRecDepth 100000 in
set_option maxHeartbeats 4000000 in
theorem am_fls_all : am_fls.all (fun q => am_in q.2.2.2.2 (am_fw q.1 q.2.1 q.2.2.1 q.2.2.2.1)) = true := by decide +kernel
set_option maxRecDepth 100000 in
set_option maxHeartbeats 4000000 in
theorem am_flsN_all : am_flsN.all (fun q => decide (lw_tbl[q.2.2.2.2]? = some (am_fwN q.1 q.2.1 q.2.2.1 q.2.2.2.1))) = true := by decide +kernel
set_option maxRecDepth 100000 in
set_option maxHeartbeats 4000000 in
theorem am_mls_all : am_mls.all (fun q => am_in q.2.2.2 (.methodLink q.1 q.2.1 q.2.2.1)) = true := by decide +kernel
set_option maxRecDepth 100000 in
set_option maxHeartbeats 4000000 in
theorem am_mlsN_all : am_mlsN.all (fun q => decide (lw_tbl[q.2.2.2]? = some (.methodLinkNest q.1 q.2.1 q.2.2.1 RX8))) = true := by decide +kernel
set_option maxRecDepth 100000 in
set_option maxHeartbeats 4000000 in
theorem am_cps_all : am_cps.all (fun q => am_in q.2.2 (.methodLink q.1 q.2.1 arraycopyName)) = true := by decide +kernel
def am_mname : Nat → MethodName
  | 3 => Lib.Math.max.name
  | 4 => Lib.Math.min.name
  | _ => Lib.Math.abs.name
set_option maxRecDepth 100000 in
set_option maxHeartbeats 4000000 in
theorem am_mths_all : am_mths.all (fun q => am_in q.2.2.2 (.methodLink q.1 q.2.1 (am_mname q.2.2.1))) = true := by decide +kernel
set_option maxRecDepth 100000 in
set_option maxHeartbeats 4000000 in
theorem am_csts_all : am_csts.all (fun q => am_in q.2.2.2 (.constant q.1 q.2.1 q.2.2.1)) = true := by decide +kernel
set_option maxRecDepth 100000 in
set_option maxHeartbeats 4000000 in
theorem am_cstLs_all : am_cstLs.all (fun q => am_in q.2.2.2 (.constantLong q.1 q.2.1 q.2.2.1)) = true := by decide +kernel
set_option maxRecDepth 100000 in
theorem am_w_native : Cond.native arraycopyName ∈ am_GW := am_in_ok (i := 585) (by decide +kernel)
set_option maxRecDepth 100000 in
theorem am_w_static : Cond.static arraycopyName ∈ am_GW := am_in_ok (i := 584) (by decide +kernel)
set_option maxRecDepth 100000 in
theorem am_w_sys : Cond.initialized "java/lang/System" ∈ am_GW := am_in_ok (i := 117) (by decide +kernel)
set_option maxRecDepth 100000 in
set_option maxHeartbeats 4000000 in
theorem am_uws_all : (List.range 10).all (fun ci => (u_ws (am_C ci).1 (am_C ci).2.1 (am_C ci).2.2).all (fun w => decide (w ∈ lw_tbl) && goodWord w)) = true := by decide +kernel
theorem am_uws {ci : Nat} (h : ci < 10) : ∀ w ∈ u_ws (am_C ci).1 (am_C ci).2.1 (am_C ci).2.2, w ∈ am_GW := by
  intro w hw
  have h1 := List.all_eq_true.mp (List.all_eq_true.mp am_uws_all ci (List.mem_range.mpr h)) w hw
  simp only [Bool.and_eq_true, decide_eq_true_eq] at h1
  exact List.mem_filter.mpr h1
theorem am_C_get {ci : Nat} (h : ci < 10) : vwCl[ci]? = some (am_C ci) := by
  have : ci < vwCl.length := h
  rw [am_C, List.getD_eq_getElem?_getD, List.getElem?_eq_getElem this]; rfl
def am_dd (cc : ByteArray) (pc : Nat) (i : Instr) (len n : Nat) : Bool := decide (decode cc pc = .ok (i, len)) && decide (n = pc + len)
def am_fok (own : String) (j a b : Nat) : Bool := decide (a < 10) && decide (b < (am_C a).2.2) && (am_fls.any (fun q => Nat.beq q.2.1 j && Nat.beq q.2.2.1 a && Nat.beq q.2.2.2.1 b && decide (q.1 = own)) || am_flsN.any (fun q => Nat.beq q.2.1 j && Nat.beq q.2.2.1 a && Nat.beq q.2.2.2.1 b && decide (q.1 = own)))
def am_pok (a b c : Nat) : Bool := decide (((am_C a).2.1 b).2.2.2 = false) && decide (parseFieldDescriptor ((am_C a).2.1 b).2.2.1 = some (if c = 0 then .int else .boolean))
def am_swok (pc : Nat) (lo hi : Int) (offs : Array Int) (l : List (Int32 × Nat)) : Bool := decide ((l.length : Int) = hi - lo + 1) && (List.range l.length).all (fun j => match l[j]? with
  | none => false
  | some q => decide (q.1.toInt = lo + (j : Int)) && (match offs[j]? with
    | none => false
    | some o => decide ((pc : Int) + o = (q.2 : Int))))
/-- a call's words: kind 0 by an object, 1 without -/
noncomputable def am_iok (own : String) (j a b c dp kd : Nat) : Bool := if a = 0 then true else match am_inf a with
  | none => false
  | some q => Nat.beq q.2.2.2.2.2.1 kd && Nat.blt q.2.2.2.2.1 dp && Nat.beq b (q.2.2.2.2.2.2.1 + (1 - kd)) && decide (c = if q.2.2.2.1 = none then 0 else 1) && (am_mls.any (fun z => Nat.beq z.2.1 j && decide (z.1 = own) && decide (z.2.2.1 = q.1)) || am_mlsN.any (fun z => Nat.beq z.2.1 j && decide (z.1 = own) && decide (z.2.2.1 = q.1)))
noncomputable def am_okb (q : Inf) (pc : Nat) (e : En) : Bool := match e with
  | (i, n, a, b, c, v, w) => match i with
  | .iconst z => am_dd q.2.1 pc (.iconst z) 1 n && decide (Int32.ofInt z = v)
  | .bipush z => am_dd q.2.1 pc (.bipush z) 2 n && decide ((Int8.ofInt z).toInt32 = v)
  | .sipush z => am_dd q.2.1 pc (.sipush z) 3 n && decide ((Int16.ofInt z).toInt32 = v)
  | .ldc z => am_dd q.2.1 pc (.ldc z) 2 n && am_csts.any (fun y => Nat.beq y.2.1 z && decide (y.2.2.1 = v) && decide (y.1 = q.1.cls))
  | .ldc_w z => am_dd q.2.1 pc (.ldc_w z) 3 n && am_csts.any (fun y => Nat.beq y.2.1 z && decide (y.2.2.1 = v) && decide (y.1 = q.1.cls))
  | .lconst z => am_dd q.2.1 pc (.lconst z) 1 n && decide (Int64.ofNat (z : Nat) = w)
  | .ldc2_w z => am_dd q.2.1 pc (.ldc2_w z) 3 n && am_cstLs.any (fun y => Nat.beq y.2.1 z && decide (y.2.2.1 = w) && decide (y.1 = q.1.cls))
  | .iload z => am_dd q.2.1 pc (.iload z) 2 n && decide (z = a)
  | .iload_n z => am_dd q.2.1 pc (.iload_n z) 1 n && decide ((z : Nat) = a)
  | .lload z => am_dd q.2.1 pc (.lload z) 2 n && decide (z = a)
  | .lload_n z => am_dd q.2.1 pc (.lload_n z) 1 n && decide ((z : Nat) = a)
  | .aload z => am_dd q.2.1 pc (.aload z) 2 n && decide (z = a)
  | .aload_n z => am_dd q.2.1 pc (.aload_n z) 1 n && decide ((z : Nat) = a)
  | .istore z => am_dd q.2.1 pc (.istore z) 2 n && decide (z = a)
  | .istore_n z => am_dd q.2.1 pc (.istore_n z) 1 n && decide ((z : Nat) = a)
  | .iinc z d => am_dd q.2.1 pc (.iinc z d) 3 n && decide (z = a) && decide (Int32.ofInt d = v)
  | .goto o => decide (decode q.2.1 pc = .ok (.goto o, 3)) && decide ((pc : Int) + o = (a : Int))
  | .ifCond cd o => am_dd q.2.1 pc (.ifCond cd o) 3 n && decide ((pc : Int) + o = (a : Int))
  | .if_icmp cd o => am_dd q.2.1 pc (.if_icmp cd o) 3 n && decide ((pc : Int) + o = (a : Int))
  | .tableswitch d lo hi offs => decide (decode q.2.1 pc = .ok (.tableswitch d lo hi offs, n - pc)) && decide ((pc : Int) + d = (a : Int)) && (match am_nth am_switches b with
    | none => false
    | some l => am_swok pc lo hi offs l)
  | .getfield j => am_dd q.2.1 pc (.getfield j) 3 n && am_fok q.1.cls j a b
  | .putfield j => am_dd q.2.1 pc (.putfield j) 3 n && am_fok q.1.cls j a b && am_pok a b c
  | .invokevirtual j => am_dd q.2.1 pc (.invokevirtual j) 3 n && am_iok q.1.cls j a b c q.2.2.2.2.1 0
  | .invokestatic j => am_dd q.2.1 pc (.invokestatic j) 3 n && (if c = 2 then am_cps.any (fun z => Nat.beq z.2.1 j && decide (z.1 = q.1.cls)) && Nat.blt 0 q.2.2.2.2.1 else if c = 3 ∨ c = 4 ∨ c = 5 then am_mths.any (fun z => Nat.beq z.2.1 j && Nat.beq z.2.2.1 c && decide (z.1 = q.1.cls)) && Nat.blt 0 q.2.2.2.2.1 else am_iok q.1.cls j a b c q.2.2.2.2.1 1)
  | .ireturn => am_dd q.2.1 pc .ireturn 1 n && ((decide (c = 0) && decide (q.2.2.2.1 = some .int)) || (decide (c = 1) && decide (q.2.2.2.1 = some .boolean)))
  | .return_ => am_dd q.2.1 pc .return_ 1 n && decide (q.2.2.2.1 = none)
  | .iadd | .isub | .imul | .iand | .ior | .ixor | .ishl | .ishr | .idiv | .irem | .ineg | .i2l | .l2i | .i2b | .land | .lor | .lshl | .lshr | .lcmp | .dup | .dup2 | .arraylength | .iaload | .baload | .iastore | .bastore | .aaload => am_dd q.2.1 pc i 1 n
  | _ => false
/-- what is asked of a method's own row: a callee's words stand; the law's own row is free -/
noncomputable def am_iwok (q : Inf) : Bool := Nat.ble q.2.2.1 40 && (match q.2.2.2.2.2.1 with
  | 0 => plainName q.1.cls && decide (q.1.cls ≠ "java/lang/invoke/MethodHandle") && decide (q.1.cls ≠ "java/lang/invoke/VarHandle") && decide ((parseMethodDescriptor q.1.desc).map (fun d => d.parameters.length) = some q.2.2.2.2.2.2.1) && am_in q.2.2.2.2.2.2.2.1 (.code q.1 q.2.1 q.2.2.1 q.2.2.2.1) && am_in q.2.2.2.2.2.2.2.2.1 (.initialized q.1.cls) && am_in q.2.2.2.2.2.2.2.2.2.1 (.instanceMethod q.1) && am_in q.2.2.2.2.2.2.2.2.2.2 (.selects q.1.cls q.1 q.1)
  | 1 => plainName q.1.cls && decide (q.1.cls ≠ "java/lang/invoke/MethodHandle") && decide (q.1.cls ≠ "java/lang/invoke/VarHandle") && decide ((parseMethodDescriptor q.1.desc).map (fun d => d.parameters.length) = some q.2.2.2.2.2.2.1) && am_in q.2.2.2.2.2.2.2.1 (.code q.1 q.2.1 q.2.2.1 q.2.2.2.1) && am_in q.2.2.2.2.2.2.2.2.1 (.initialized q.1.cls) && am_in q.2.2.2.2.2.2.2.2.2.1 (.static q.1)
  | _ => true)
noncomputable def am_chk (m : Nat) : Bool := match am_inf m with
  | none => false
  | some q => match am_mth m with
    | none => false
    | some t => am_iwok q && Nat.beq t.1 q.2.2.1 && (match q.2.2.2.2.2.1 with
      | 0 => decide (t.2.1 < 10) && decide ((am_C t.2.1).1 = q.1.cls)
      | _ => true) && t.2.2.2.all (fun ch => ch.all (fun z => am_okb q z.1 z.2))

set_option maxRecDepth 100000 in
theorem am_w_m3 : Cond.static Lib.Math.max.name ∈ am_GW ∧ Cond.code Lib.Math.max.name Lib.Math.max.code 2 (some .int) ∈ am_GW := ⟨am_in_ok (i := 717) (by decide +kernel), am_in_ok (i := 718) (by decide +kernel)⟩
set_option maxRecDepth 100000 in
theorem am_w_m4 : Cond.static Lib.Math.min.name ∈ am_GW ∧ Cond.code Lib.Math.min.name Lib.Math.min.code 2 (some .int) ∈ am_GW := ⟨am_in_ok (i := 462) (by decide +kernel), am_in_ok (i := 463) (by decide +kernel)⟩
set_option maxRecDepth 100000 in
theorem am_w_m5 : Cond.static Lib.Math.abs.name ∈ am_GW ∧ Cond.code Lib.Math.abs.name Lib.Math.abs.code 1 (some .int) ∈ am_GW := ⟨am_in_ok (i := 738) (by decide +kernel), am_in_ok (i := 739) (by decide +kernel)⟩
set_option maxRecDepth 100000 in
theorem am_w_math : Cond.initialized "java/lang/Math" ∈ am_GW := am_in_ok (i := 116) (by decide +kernel)

