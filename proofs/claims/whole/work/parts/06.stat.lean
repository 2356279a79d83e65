def am_fls : List (String × Nat × Nat × Nat × Nat) := [(RX8, 12, 8, 0, 349),
  (RX8, 19, 8, 1, 350),
  (RX8, 26, 8, 2, 351),
  (RX8, 30, 8, 3, 352),
  (RX8, 36, 8, 4, 353),
  (RX8, 45, 8, 5, 354),
  (RX8, 54, 8, 6, 355),
  (RX8, 61, 8, 7, 356),
  (RX8, 68, 8, 8, 357),
  (RX8, 72, 8, 9, 358),
  (RX8, 76, 8, 10, 359),
  (RX0, 9, 0, 0, 187),
  (RX0, 15, 0, 1, 188),
  (RX0, 18, 0, 2, 189),
  (RX0, 27, 0, 3, 190),
  (RX1, 9, 1, 0, 207),
  (RX2, 9, 2, 0, 308),
  (RX2, 15, 2, 1, 309),
  (RX2, 18, 2, 2, 310),
  (RX2, 21, 2, 3, 311),
  (RX3, 9, 3, 2, 219),
  (RX3, 15, 3, 3, 220),
  (RX3, 19, 3, 4, 221),
  (RX3, 22, 3, 5, 222),
  (RX3, 25, 3, 0, 217),
  (RX3, 29, 3, 1, 218),
  (RX3, 33, 3, 8, 230),
  (RX3, 72, 3, 6, 226),
  (RX3, 75, 3, 7, 228),
  (RX4, 9, 4, 0, 134),
  (RX4, 15, 4, 1, 135),
  (RX4, 18, 4, 2, 136),
  (RX4, 21, 4, 3, 137),
  (RX4, 24, 4, 4, 138),
  (RX4, 27, 4, 5, 139),
  (RX4, 30, 4, 6, 140),
  (RX4, 33, 4, 7, 141),
  (RX4, 37, 4, 8, 144),
  (RX5, 9, 5, 0, 171),
  (RX5, 15, 5, 1, 172),
  (RX6, 9, 6, 0, 330),
  (RX6, 15, 6, 1, 331),
  (RX6, 18, 6, 2, 332),
  (RX6, 27, 6, 4, 335),
  (RX6, 37, 6, 3, 333),
  (RX7, 9, 7, 4, 261),
  (RX7, 15, 7, 5, 262),
  (RX7, 18, 7, 6, 263),
  (RX7, 21, 7, 7, 264),
  (RX7, 24, 7, 8, 265),
  (RX7, 27, 7, 0, 257),
  (RX7, 31, 7, 1, 258),
  (RX7, 35, 7, 2, 259),
  (RX7, 39, 7, 3, 260),
  (RX7, 43, 7, 12, 271),
  (RX7, 47, 7, 13, 272),
  (RX7, 61, 7, 10, 268),
  (RX7, 72, 7, 11, 269),
  (RX7, 79, 7, 9, 267),
  (RX9, 7, 9, 1, 891),
  (RX9, 13, 9, 2, 892),
  (RX9, 16, 9, 3, 893),
  (RX9, 19, 9, 4, 894),
  (RX9, 22, 9, 5, 895),
  (RX9, 25, 9, 7, 897),
  (RX9, 28, 9, 8, 898),
  (RX9, 31, 9, 9, 899),
  (RX9, 34, 9, 10, 900),
  (RX9, 37, 9, 11, 901),
  (RX9, 40, 9, 12, 902),
  (RX9, 43, 9, 13, 903),
  (RX9, 46, 9, 14, 904),
  (RX9, 49, 9, 15, 905),
  (RX9, 52, 9, 17, 907),
  (RX9, 55, 9, 21, 911),
  (RX9, 59, 9, 22, 912),
  (RX9, 62, 9, 23, 913),
  (RX9, 65, 9, 24, 914),
  (RX9, 68, 9, 26, 916),
  (RX9, 71, 9, 28, 918),
  (RX9, 74, 9, 29, 919),
  (RX9, 77, 9, 32, 922),
  (RX9, 80, 9, 33, 923),
  (RX9, 83, 9, 34, 924),
  (RX9, 86, 9, 35, 925),
  (RX9, 95, 9, 0, 890),
  (RX9, 145, 9, 6, 896),
  (RX9, 150, 9, 18, 908),
  (RX9, 162, 9, 19, 909),
  (RX9, 165, 9, 20, 910),
  (RX9, 198, 9, 25, 915),
  (RX9, 223, 9, 27, 917),
  (RX9, 253, 9, 30, 920),
  (RX9, 266, 9, 31, 921),
  (RX9, 278, 9, 16, 906)]
def am_flsN : List (String × Nat × Nat × Nat × Nat) := [(RX8, 88, 4, 7, 142),
  (RX8, 136, 3, 6, 227),
  (RX8, 139, 3, 7, 229),
  (RX8, 142, 3, 5, 224),
  (RX8, 146, 5, 1, 174),
  (RX8, 161, 0, 3, 191),
  (RX8, 195, 7, 11, 270),
  (RX8, 198, 7, 8, 266),
  (RX8, 213, 6, 4, 336),
  (RX8, 268, 6, 3, 334),
  (RX0, 31, 5, 1, 173),
  (RX3, 79, 4, 7, 143),
  (RX7, 50, 3, 6, 225),
  (RX7, 93, 3, 5, 223)]
def am_mls : List (String × Nat × MethodName × Nat) := [(RX8, 80, yX8_within, 387),
  (RX8, 91, yX8_forgetShaped, 394),
  (RX8, 98, yX8_isSide, 414),
  (RX8, 106, yX8_isDay, 426),
  (RX8, 113, yX8_isShape, 440),
  (RX8, 171, yX8_isLetter, 621),
  (RX8, 183, yX8_isWord, 638),
  (RX8, 189, yX8_canBeWorded, 653),
  (RX8, 201, yX8_countOfMaybe, 696),
  (RX8, 204, yX8_mayBe, 700),
  (RX8, 207, yX8_rankOfMaybe, 708),
  (RX8, 216, yX8_renameAll, 716),
  (RX8, 223, yX8_bestHalf, 737),
  (RX8, 226, yX8_lowestFreeWord, 750),
  (RX8, 229, yX8_costOfAsk, 764),
  (RX8, 241, yX8_hasSide, 720),
  (RX8, 248, yX8_keyOfHalves, 742),
  (RX8, 274, yX8_isEdition, 836),
  (RX0, 36, yX0_readItem, 558),
  (RX0, 51, yX0_isItem, 576),
  (RX0, 65, yX0_letterOf, 500),
  (RX0, 68, yX0_itemOn, 496),
  (RX0, 71, yX0_pairOf, 613),
  (RX1, 15, yX1_leftOf, 626),
  (RX1, 19, yX1_letterAs, 645),
  (RX2, 37, yX2_loadOf, 801),
  (RX2, 44, yX2_bestOf, 810),
  (RX3, 37, yX3_dayLookedAt, 488),
  (RX3, 47, yX3_fits, 503),
  (RX3, 68, yX3_findPart, 524),
  (RX3, 82, yX3_isInRight, 533),
  (RX4, 45, yX4_doorsOf, 800),
  (RX4, 49, yX4_allSides, 452),
  (RX4, 58, yX4_walkAll, 455),
  (RX4, 61, yX4_stepsFrom, 459),
  (RX4, 69, yX4_leastWalk, 475),
  (RX4, 73, yX4_nextInRow, 476),
  (RX5, 19, yX5_at, 566),
  (RX6, 40, yX6_sidesWith, 736),
  (RX6, 44, yX6_codeOf, 759),
  (RX6, 53, yX6_isGiven, 883),
  (RX6, 57, yX6_ledTo, 853),
  (RX6, 60, yX6_printed, 852),
  (RX7, 64, yX7_gatherCandidates, 662),
  (RX7, 68, yX7_compareAll, 670),
  (RX7, 75, yX7_choose, 680),
  (RX7, 102, yX7_isChosen, 684),
  (RX7, 105, yX7_harmOfLast, 688),
  (RL, 13, yX8_side, 383),
  (RL, 17, yX9_side, 999),
  (RL, 18, yX8_link, 410),
  (RL, 22, yX9_link, 1014),
  (RL, 23, yX8_doors, 422),
  (RL, 27, yX9_doors, 1022),
  (RL, 28, yX8_walk, 436),
  (RL, 32, yX9_walk, 1034),
  (RL, 33, yX8_row, 467),
  (RL, 36, yX9_row, 1057),
  (RL, 37, yX8_right, 480),
  (RL, 40, yX9_right, 1127),
  (RL, 41, yX8_shaped, 515),
  (RL, 44, yX9_shaped, 1139),
  (RL, 47, yX8_write, 538),
  (RL, 51, yX9_write, 1064),
  (RL, 52, yX8_wipe, 546),
  (RL, 56, yX9_wipe, 1070),
  (RL, 57, yX8_fault, 550),
  (RL, 60, yX9_fault, 1074),
  (RL, 61, yX8_force, 584),
  (RL, 64, yX9_force, 1095),
  (RL, 65, yX8_rule, 595),
  (RL, 68, yX9_rule, 1099),
  (RL, 69, yX8_why, 600),
  (RL, 72, yX9_why, 1115),
  (RL, 73, yX8_quarrel, 605),
  (RL, 76, yX9_quarrel, 1119),
  (RL, 77, yX8_misread, 617),
  (RL, 80, yX9_misread, 1151),
  (RL, 81, yX8_read, 634),
  (RL, 84, yX9_read, 1160),
  (RL, 85, yX8_words, 649),
  (RL, 88, yX9_words, 1176),
  (RL, 89, yX8_who, 692),
  (RL, 92, yX9_who, 1193),
  (RL, 93, yX8_give, 712),
  (RL, 96, yX9_give, 1201),
  (RL, 97, yX8_split, 728),
  (RL, 100, yX9_split, 1209),
  (RL, 101, yX8_ask, 760),
  (RL, 104, yX9_ask, 1224),
  (RL, 105, yX8_pass, 775),
  (RL, 108, yX9_pass, 1239),
  (RL, 109, yX8_code, 779),
  (RL, 112, yX9_code, 1243),
  (RL, 113, yX8_lead, 783),
  (RL, 116, yX9_lead, 1247),
  (RL, 117, yX8_rounds, 787),
  (RL, 120, yX9_rounds, 1251),
  (RL, 121, yX8_fullYear, 819),
  (RL, 124, yX9_fullYear, 1264),
  (RL, 125, yX8_edition, 823),
  (RL, 128, yX9_edition, 1268),
  (RL, 129, yX8_book, 832),
  (RL, 132, yX9_book, 1272),
  (RL, 133, yX8_wrong, 844),
  (RL, 136, yX9_wrong, 1276),
  (RL, 137, yX8_keep, 855),
  (RL, 140, yX9_keep, 1280),
  (RL, 141, yX8_back, 863),
  (RL, 144, yX9_back, 1288),
  (RL, 145, yX8_count, 867),
  (RL, 148, yX9_count, 1292),
  (RX9, 91, yX9_in, 1004),
  (RX9, 99, yX9_all, 1042),
  (RX9, 111, yX9_areGiven, 1010),
  (RX9, 115, yX9_isSide, 1018),
  (RX9, 119, yX9_isDay, 1026),
  (RX9, 122, yX9_doorsAt, 1030),
  (RX9, 126, yX9_has, 1050),
  (RX9, 130, yX9_isShape, 1038),
  (RX9, 133, yX9_layFrom, 1046),
  (RX9, 136, yX9_walkOf, 1053),
  (RX9, 140, yX9_bits, 1061),
  (RX9, 159, yX9_number, 1086),
  (RX9, 172, yX9_item, 1082),
  (RX9, 175, yX9_readAll, 1078),
  (RX9, 178, yX9_letterOf, 1112),
  (RX9, 181, yX9_whyOf, 1108),
  (RX9, 186, yX9_ruleOf, 1104),
  (RX9, 189, yX9_quarrels, 1123),
  (RX9, 192, yX9_doorsIn, 1135),
  (RX9, 195, yX9_isRight, 1131),
  (RX9, 201, yX9_layShapes, 1143),
  (RX9, 204, yX9_bar, 1147),
  (RX9, 209, yX9_missed, 1156),
  (RX9, 212, yX9_readLetter, 1172),
  (RX9, 217, yX9_isWord, 1164),
  (RX9, 220, yX9_readAs, 1168),
  (RX9, 226, yX9_mayStand, 1185),
  (RX9, 229, yX9_areLinked, 1189),
  (RX9, 234, yX9_layWords, 1181),
  (RX9, 237, yX9_isAlive, 1197),
  (RX9, 240, yX9_get, 1205),
  (RX9, 244, yX9_codeOf, 1213),
  (RX9, 247, yX9_size, 1217),
  (RX9, 250, yX9_leadOf, 1220),
  (RX9, 257, yX9_isAsk, 1229),
  (RX9, 262, yX9_mayPass, 1234),
  (RX9, 271, yX9_layCodes, 1256),
  (RX9, 275, yX9_weightOf, 1260),
  (RX9, 281, yX9_copy, 1284)]
def am_mlsN : List (String × Nat × MethodName × Nat) := [(RX8, 84, yX6_isGiven, 390),
  (RX8, 94, yX4_add, 406),
  (RX8, 102, yX4_setLink, 418),
  (RX8, 109, yX4_doorsOf, 429),
  (RX8, 116, yX4_leastWalk, 448),
  (RX8, 121, yX4_sideInRow, 471),
  (RX8, 124, yX3_isRight, 484),
  (RX8, 128, yX3_shapeOn, 519),
  (RX8, 132, yX3_bar, 529),
  (RX8, 149, yX5_append, 542),
  (RX8, 153, yX0_readFrom, 554),
  (RX8, 157, yX0_copy, 588),
  (RX8, 162, yX0_valueOn, 599),
  (RX8, 165, yX0_itemOn, 604),
  (RX8, 168, yX0_areAtOdds, 609),
  (RX8, 174, yX1_hasRoom, 622),
  (RX8, 177, yX7_forget, 402),
  (RX8, 180, yX1_set, 630),
  (RX8, 186, yX1_readAs, 641),
  (RX8, 192, yX7_findWords, 657),
  (RX8, 210, yX6_sidesWith, 704),
  (RX8, 220, yX6_codeOf, 732),
  (RX8, 235, yX6_wordOf, 769),
  (RX8, 238, yX6_ledTo, 755),
  (RX8, 244, yX6_rename, 721),
  (RX8, 257, yX0_allowsWord, 754),
  (RX8, 260, yX2_weigh, 791),
  (RX8, 264, yX2_fewest, 806),
  (RX8, 271, yX6_print, 827),
  (RX8, 277, yX6_printed, 840),
  (RX8, 280, yX6_isMisprinted, 848),
  (RX8, 283, yX6_copy, 859),
  (RX8, 286, yX4_countLinks, 871),
  (RX8, 289, yX6_countCodes, 875),
  (RX8, 292, yX6_countOldWords, 879),
  (RX8, 295, yX4_allSides, 444),
  (RX8, 298, yX3_forget, 398),
  (RX0, 40, yX5_endOfFigures, 562),
  (RX0, 44, yX5_at, 571),
  (RX0, 47, yX5_number, 572),
  (RX0, 55, yX8_within, 579),
  (RX0, 58, yX8_isDay, 580),
  (RX0, 62, yX8_isLetter, 581),
  (RX0, 74, yX8_hasSide, 514),
  (RX2, 25, yX6_codeOf, 795),
  (RX2, 31, yX4_weightOf, 796),
  (RX2, 40, yX8_hasSide, 805),
  (RX3, 41, yX0_valueOn, 492),
  (RX3, 51, yX4_leastWalk, 507),
  (RX3, 57, yX4_doorsOf, 509),
  (RX3, 60, yX0_allowsShape, 510),
  (RX3, 64, yX4_allSides, 523),
  (RX3, 85, yX8_hasSide, 537),
  (RX4, 41, yX8_hasSide, 433),
  (RX4, 53, yX8_within, 453),
  (RX5, 23, yX8_within, 570),
  (RX6, 63, yX8_hasSide, 854),
  (RX7, 82, yX0_allowsWord, 666),
  (RX7, 88, yX1_readAs, 674),
  (RX7, 96, yX4_areLinked, 675)]
def am_cps : List (String × Nat × Nat) := [(RX0, 21, 592), (RX6, 31, 831)]
def am_mths : List (String × Nat × Nat × Nat) := [(RX8, 251, 5, 746), (RX2, 49, 3, 816), (RX2, 54, 4, 817), (RX4, 64, 4, 463), (RX6, 47, 3, 725), (RX7, 55, 4, 661)]
def am_csts : List (String × Nat × Int32 × Nat) := [(RX8, 120, 1000000, 466), (RX8, 232, (-1000000), 768), (RX8, 233, (-1000002), 773), (RX8, 234, (-100000), 774), (RX8, 247, 2000000000, 741), (RX8, 256, 100000, 749), (RX8, 267, 100000000, 818), (RX2, 47, 100000000, 814), (RX2, 48, 1000000, 815), (RX3, 56, 1000000, 508), (RX3, 78, 100000000, 528), (RX4, 57, 1000000, 454), (RX7, 71, 1000000, 679), (RX9, 256, (-1000000), 1228), (RX9, 261, (-1000002), 1233), (RX9, 265, (-100000), 1238)]
def am_cstLs : List (String × Nat × Int64 × Nat) := [(RL, 45, 4294967295, 1296), (RX9, 89, 14600, 1029), (RX9, 103, 200, 1003), (RX9, 105, 20, 1007), (RX9, 107, 500, 1008), (RX9, 109, 50, 1009), (RX9, 143, 8, 1068), (RX9, 148, 255, 1069), (RX9, 153, 48, 1090), (RX9, 155, 57, 1091), (RX9, 157, 5, 1092), (RX9, 168, 9999, 1093), (RX9, 170, 40, 1094), (RX9, 184, 2, 1103), (RX9, 207, 99, 1155), (RX9, 215, 35, 1167), (RX9, 232, 4, 1180), (RX9, 269, 1000000, 1255)]
abbrev Inf : Type := MethodName × ByteArray × Nat × Option FieldType × Nat × Nat × Nat × Nat × Nat × Nat × Nat
noncomputable def am_inf_0 : List Inf := [(yL_law, code, 0, none, 0, 3, 0, 0, 0, 0, 0),
  (yX0_copy, cX0_copy, 2, none, 1, 0, 1, 591, 110, 590, 31),
  (yX0_readFrom, cX0_readFrom, 4, some .int, 4, 0, 1, 557, 110, 556, 26),
  (yX0_readItem, cX0_readItem, 8, some .int, 3, 0, 2, 561, 110, 560, 27),
  (yX0_isItem, cX0_isItem, 3, some .boolean, 2, 1, 3, 578, 110, 577, 0),
  (yX0_letterOf, cX0_letterOf, 1, some .int, 0, 1, 1, 502, 110, 501, 0),
  (yX0_itemOn, cX0_itemOn, 5, some .int, 1, 0, 2, 499, 110, 498, 18),
  (yX0_valueOn, cX0_valueOn, 4, some .int, 2, 0, 2, 495, 110, 494, 17),
  (yX0_areAtOdds, cX0_areAtOdds, 6, some .boolean, 1, 0, 2, 612, 110, 611, 32),
  (yX0_pairOf, cX0_pairOf, 2, some .int, 0, 0, 1, 616, 110, 615, 33),
  (yX0_allowsWord, cX0_allowsWord, 4, some .boolean, 1, 0, 1, 669, 110, 668, 42),
  (yX0_allowsShape, cX0_allowsShape, 5, some .boolean, 1, 0, 1, 513, 110, 512, 20),
  (yX1_hasRoom, cX1_hasRoom, 4, some .boolean, 1, 0, 3, 625, 111, 624, 34),
  (yX1_set, cX1_set, 5, some .int, 0, 0, 3, 633, 111, 632, 36)]
noncomputable def am_inf_1 : List Inf := [(yX1_leftOf, cX1_leftOf, 4, some .int, 0, 0, 1, 629, 111, 628, 35),
  (yX1_letterAs, cX1_letterAs, 3, some .int, 1, 0, 2, 648, 111, 647, 38),
  (yX1_readAs, cX1_readAs, 3, some .int, 2, 0, 2, 644, 111, 643, 37),
  (yX2_weigh, cX2_weigh, 6, none, 3, 0, 3, 794, 114, 793, 61),
  (yX2_loadOf, cX2_loadOf, 4, some .int, 1, 0, 1, 804, 114, 803, 63),
  (yX2_fewest, cX2_fewest, 4, some .int, 2, 0, 1, 809, 114, 808, 64),
  (yX2_bestOf, cX2_bestOf, 10, some .int, 1, 0, 2, 813, 114, 812, 65),
  (yX3_forget, cX3_forget, 1, none, 0, 0, 0, 401, 112, 400, 2),
  (yX3_isRight, cX3_isRight, 3, some .boolean, 4, 0, 2, 487, 112, 486, 15),
  (yX3_shapeOn, cX3_shapeOn, 7, none, 4, 0, 1, 522, 112, 521, 21),
  (yX3_findPart, cX3_findPart, 10, none, 3, 0, 1, 527, 112, 526, 22),
  (yX3_bar, cX3_bar, 2, some .int, 2, 0, 0, 532, 112, 531, 23),
  (yX3_isInRight, cX3_isInRight, 3, some .boolean, 1, 0, 1, 536, 112, 535, 24),
  (yX4_add, cX4_add, 5, some .int, 0, 0, 4, 409, 108, 408, 4)]
noncomputable def am_inf_2 : List Inf := [(yX4_setLink, cX4_setLink, 5, some .int, 0, 0, 3, 421, 108, 420, 6),
  (yX4_countLinks, cX4_countLinks, 4, some .int, 0, 0, 0, 874, 108, 873, 71),
  (yX4_allSides, cX4_allSides, 1, some .int, 0, 0, 0, 447, 108, 446, 9),
  (yX4_doorsOf, cX4_doorsOf, 5, some .int, 1, 0, 2, 432, 108, 431, 7),
  (yX4_weightOf, cX4_weightOf, 5, some .int, 2, 0, 2, 799, 108, 798, 62),
  (yX4_areLinked, cX4_areLinked, 5, some .boolean, 1, 0, 2, 678, 108, 677, 44),
  (yX4_leastWalk, cX4_leastWalk, 2, some .int, 2, 0, 1, 451, 108, 450, 10),
  (yX4_walkAll, cX4_walkAll, 5, none, 1, 0, 0, 458, 108, 457, 11),
  (yX4_stepsFrom, cX4_stepsFrom, 9, some .int, 0, 0, 2, 462, 108, 461, 12),
  (yX4_sideInRow, cX4_sideInRow, 8, some .int, 3, 0, 2, 474, 108, 473, 13),
  (yX4_nextInRow, cX4_nextInRow, 7, some .int, 1, 0, 3, 479, 108, 478, 14),
  (yX5_append, cX5_append, 5, none, 0, 0, 2, 545, 109, 544, 25),
  (yX5_at, cX5_at, 2, some .int, 0, 0, 1, 569, 109, 568, 29),
  (yX5_endOfFigures, cX5_endOfFigures, 3, some .int, 1, 0, 1, 565, 109, 564, 28)]
noncomputable def am_inf_3 : List Inf := [(yX5_number, cX5_number, 5, some .int, 1, 0, 2, 575, 109, 574, 30),
  (yX6_copy, cX6_copy, 2, none, 1, 0, 1, 862, 115, 861, 70),
  (yX6_isGiven, cX6_isGiven, 1, some .boolean, 0, 0, 0, 393, 115, 392, 0),
  (yX6_wordOf, cX6_wordOf, 2, some .int, 0, 0, 1, 772, 115, 771, 60),
  (yX6_sidesWith, cX6_sidesWith, 4, some .int, 0, 0, 1, 707, 115, 706, 50),
  (yX6_codeOf, cX6_codeOf, 2, some .int, 1, 0, 1, 735, 115, 734, 54),
  (yX6_ledTo, cX6_ledTo, 5, some .int, 2, 0, 2, 758, 115, 757, 58),
  (yX6_rename, cX6_rename, 6, none, 1, 0, 3, 724, 115, 723, 53),
  (yX6_countCodes, cX6_countCodes, 3, some .int, 1, 0, 0, 878, 115, 877, 72),
  (yX6_countOldWords, cX6_countOldWords, 3, some .int, 3, 0, 0, 882, 115, 881, 73),
  (yX6_print, cX6_print, 1, some .int, 1, 0, 0, 830, 115, 829, 66),
  (yX6_printed, cX6_printed, 3, some .int, 0, 0, 2, 843, 115, 842, 68),
  (yX6_isMisprinted, cX6_isMisprinted, 5, some .boolean, 3, 0, 3, 851, 115, 850, 69),
  (yX7_forget, cX7_forget, 1, none, 0, 0, 0, 405, 113, 404, 3)]
noncomputable def am_inf_4 : List Inf := [(yX7_findWords, cX7_findWords, 3, some .boolean, 6, 0, 2, 660, 113, 659, 40),
  (yX7_gatherCandidates, cX7_gatherCandidates, 4, none, 2, 0, 1, 665, 113, 664, 41),
  (yX7_compareAll, cX7_compareAll, 4, none, 3, 0, 0, 673, 113, 672, 43),
  (yX7_choose, cX7_choose, 4, none, 1, 0, 2, 683, 113, 682, 45),
  (yX7_choose, cX7_choose, 4, none, 2, 0, 2, 683, 113, 682, 45),
  (yX7_choose, cX7_choose, 4, none, 3, 0, 2, 683, 113, 682, 45),
  (yX7_choose, cX7_choose, 4, none, 4, 0, 2, 683, 113, 682, 45),
  (yX7_choose, cX7_choose, 4, none, 5, 0, 2, 683, 113, 682, 45),
  (yX7_isChosen, cX7_isChosen, 4, some .boolean, 0, 0, 2, 687, 113, 686, 46),
  (yX7_harmOfLast, cX7_harmOfLast, 4, some .int, 0, 0, 1, 691, 113, 690, 47),
  (yX8_side, cX8_side, 5, some .int, 2, 0, 4, 386, 107, 384, 385),
  (yX8_link, cX8_link, 4, some .int, 2, 0, 3, 413, 107, 411, 412),
  (yX8_doors, cX8_doors, 3, some .int, 2, 0, 2, 425, 107, 423, 424),
  (yX8_walk, cX8_walk, 3, some .int, 3, 0, 1, 439, 107, 437, 438)]
noncomputable def am_inf_5 : List Inf := [(yX8_row, cX8_row, 3, some .int, 4, 0, 2, 470, 107, 468, 469),
  (yX8_right, cX8_right, 3, some .int, 5, 0, 2, 483, 107, 481, 482),
  (yX8_shaped, cX8_shaped, 3, some .int, 5, 0, 2, 518, 107, 516, 517),
  (yX8_write, cX8_write, 4, some .int, 1, 0, 2, 541, 107, 539, 540),
  (yX8_wipe, cX8_wipe, 2, some .int, 0, 0, 0, 549, 107, 547, 548),
  (yX8_fault, cX8_fault, 2, some .int, 5, 0, 0, 553, 107, 551, 552),
  (yX8_force, cX8_force, 1, some .int, 5, 0, 0, 587, 107, 585, 586),
  (yX8_rule, cX8_rule, 3, some .int, 3, 0, 2, 598, 107, 596, 597),
  (yX8_why, cX8_why, 4, some .int, 2, 0, 2, 603, 107, 601, 602),
  (yX8_quarrel, cX8_quarrel, 3, some .int, 2, 0, 0, 608, 107, 606, 607),
  (yX8_misread, cX8_misread, 4, some .int, 2, 0, 3, 620, 107, 618, 619),
  (yX8_read, cX8_read, 3, some .int, 3, 0, 2, 637, 107, 635, 636),
  (yX8_words, cX8_words, 4, some .int, 7, 0, 3, 652, 107, 650, 651),
  (yX8_who, cX8_who, 4, some .int, 5, 0, 2, 695, 107, 693, 694)]
noncomputable def am_inf_6 : List Inf := [(yX8_mayBe, cX8_mayBe, 3, some .boolean, 3, 0, 2, 703, 107, 702, 49),
  (yX8_countOfMaybe, cX8_countOfMaybe, 4, some .int, 4, 0, 1, 699, 107, 698, 48),
  (yX8_rankOfMaybe, cX8_rankOfMaybe, 7, some .int, 4, 0, 2, 711, 107, 710, 51),
  (yX8_give, cX8_give, 4, some .int, 7, 0, 2, 715, 107, 713, 714),
  (yX8_split, cX8_split, 6, some .int, 6, 0, 2, 731, 107, 729, 730),
  (yX8_ask, cX8_ask, 4, some .int, 6, 0, 3, 763, 107, 761, 762),
  (yX8_pass, cX8_pass, 6, some .int, 6, 0, 3, 778, 107, 776, 777),
  (yX8_code, cX8_code, 4, some .int, 2, 0, 2, 782, 107, 780, 781),
  (yX8_lead, cX8_lead, 4, some .int, 3, 0, 2, 786, 107, 784, 785),
  (yX8_renameAll, cX8_renameAll, 6, none, 3, 0, 3, 719, 107, 718, 52),
  (yX8_bestHalf, cX8_bestHalf, 10, some .int, 5, 0, 2, 740, 107, 739, 55),
  (yX8_keyOfHalves, cX8_keyOfHalves, 5, some .int, 3, 0, 3, 745, 107, 744, 56),
  (yX8_lowestFreeWord, cX8_lowestFreeWord, 3, some .int, 3, 0, 1, 753, 107, 752, 57),
  (yX8_costOfAsk, cX8_costOfAsk, 9, some .int, 5, 0, 3, 767, 107, 766, 59)]
noncomputable def am_inf_7 : List Inf := [(yX8_rounds, cX8_rounds, 5, some .int, 4, 0, 3, 790, 107, 788, 789),
  (yX8_fullYear, cX8_fullYear, 6, some .int, 3, 0, 2, 822, 107, 820, 821),
  (yX8_edition, cX8_edition, 1, some .int, 2, 0, 0, 826, 107, 824, 825),
  (yX8_book, cX8_book, 3, some .int, 2, 0, 2, 835, 107, 833, 834),
  (yX8_wrong, cX8_wrong, 5, some .int, 4, 0, 2, 847, 107, 845, 846),
  (yX8_keep, cX8_keep, 1, some .int, 2, 0, 0, 858, 107, 856, 857),
  (yX8_back, cX8_back, 1, some .int, 2, 0, 0, 866, 107, 864, 865),
  (yX8_count, cX8_count, 2, some .int, 4, 0, 1, 870, 107, 868, 869),
  (yX8_within, cX8_within, 3, some .boolean, 0, 1, 3, 389, 107, 388, 0),
  (yX8_isDay, cX8_isDay, 1, some .boolean, 1, 1, 1, 428, 107, 427, 0),
  (yX8_isLetter, cX8_isLetter, 1, some .boolean, 1, 1, 1, 583, 107, 582, 0),
  (yX8_isWord, cX8_isWord, 1, some .boolean, 1, 1, 1, 640, 107, 639, 0),
  (yX8_hasSide, cX8_hasSide, 2, some .boolean, 0, 1, 2, 435, 107, 434, 0),
  (yX8_isSide, cX8_isSide, 2, some .boolean, 1, 0, 1, 417, 107, 416, 5)]
noncomputable def am_inf_8 : List Inf := [(yX8_isShape, cX8_isShape, 2, some .boolean, 1, 0, 1, 443, 107, 442, 8),
  (yX8_isEdition, cX8_isEdition, 2, some .boolean, 1, 0, 1, 839, 107, 838, 67),
  (yX8_canBeWorded, cX8_canBeWorded, 2, some .boolean, 5, 0, 1, 656, 107, 655, 39),
  (yX8_forgetShaped, cX8_forgetShaped, 1, none, 1, 0, 0, 397, 107, 396, 1),
  (yX9_in, cX9_in, 6, some .boolean, 0, 1, 3, 1006, 117, 1005, 0),
  (yX9_has, cX9_has, 2, some .boolean, 0, 1, 2, 1052, 117, 1051, 0),
  (yX9_bits, cX9_bits, 3, some .int, 0, 1, 1, 1063, 117, 1062, 0),
  (yX9_isDay, cX9_isDay, 1, some .boolean, 1, 1, 1, 1028, 117, 1027, 0),
  (yX9_isSide, cX9_isSide, 2, some .boolean, 1, 0, 1, 1021, 117, 1020, 75),
  (yX9_all, cX9_all, 1, some .int, 0, 0, 0, 1045, 117, 1044, 78),
  (yX9_isShape, cX9_isShape, 2, some .boolean, 1, 0, 1, 1041, 117, 1040, 77),
  (yX9_areGiven, cX9_areGiven, 3, some .boolean, 0, 0, 0, 1013, 117, 1012, 74),
  (yX9_side, cX9_side, 5, some .int, 1, 0, 4, 1002, 117, 1000, 1001),
  (yX9_link, cX9_link, 5, some .int, 2, 0, 3, 1017, 117, 1015, 1016)]
noncomputable def am_inf_9 : List Inf := [(yX9_doorsAt, cX9_doorsAt, 3, some .int, 0, 0, 2, 1033, 117, 1032, 76),
  (yX9_doors, cX9_doors, 3, some .int, 2, 0, 2, 1025, 117, 1023, 1024),
  (yX9_doorsIn, cX9_doorsIn, 5, some .int, 1, 0, 2, 1138, 117, 1137, 88),
  (yX9_layFrom, cX9_layFrom, 7, none, 1, 0, 0, 1049, 117, 1048, 79),
  (yX9_walkOf, cX9_walkOf, 6, some .int, 1, 0, 1, 1056, 117, 1055, 80),
  (yX9_walk, cX9_walk, 2, some .int, 2, 0, 1, 1037, 117, 1035, 1036),
  (yX9_row, cX9_row, 11, some .int, 2, 0, 2, 1060, 117, 1058, 1059),
  (yX9_write, cX9_write, 5, some .int, 1, 0, 2, 1067, 117, 1065, 1066),
  (yX9_wipe, cX9_wipe, 2, some .int, 0, 0, 0, 1073, 117, 1071, 1072),
  (yX9_number, cX9_number, 4, some .int, 1, 0, 1, 1089, 117, 1088, 83),
  (yX9_item, cX9_item, 2, some .boolean, 2, 0, 0, 1085, 117, 1084, 82),
  (yX9_readAll, cX9_readAll, 3, some .int, 3, 0, 0, 1081, 117, 1080, 81),
  (yX9_fault, cX9_fault, 1, some .int, 4, 0, 0, 1077, 117, 1075, 1076),
  (yX9_force, cX9_force, 2, some .int, 4, 0, 0, 1098, 117, 1096, 1097)]
noncomputable def am_inf_10 : List Inf := [(yX9_letterOf, cX9_letterOf, 1, some .int, 0, 1, 1, 1114, 117, 1113, 0),
  (yX9_whyOf, cX9_whyOf, 5, some .int, 1, 0, 2, 1111, 117, 1110, 85),
  (yX9_ruleOf, cX9_ruleOf, 4, some .int, 2, 0, 2, 1107, 117, 1106, 84),
  (yX9_rule, cX9_rule, 3, some .int, 3, 0, 2, 1102, 117, 1100, 1101),
  (yX9_why, cX9_why, 3, some .int, 2, 0, 2, 1118, 117, 1116, 1117),
  (yX9_quarrels, cX9_quarrels, 9, some .boolean, 0, 0, 2, 1126, 117, 1125, 86),
  (yX9_quarrel, cX9_quarrel, 3, some .int, 1, 0, 0, 1122, 117, 1120, 1121),
  (yX9_isRight, cX9_isRight, 8, some .boolean, 3, 0, 2, 1134, 117, 1133, 87),
  (yX9_right, cX9_right, 3, some .int, 4, 0, 2, 1130, 117, 1128, 1129),
  (yX9_layShapes, cX9_layShapes, 8, some .boolean, 4, 0, 1, 1146, 117, 1145, 89),
  (yX9_bar, cX9_bar, 4, some .int, 1, 0, 0, 1150, 117, 1149, 90),
  (yX9_shaped, cX9_shaped, 4, some .int, 5, 0, 2, 1142, 117, 1140, 1141),
  (yX9_missed, cX9_missed, 4, some .int, 0, 0, 1, 1159, 117, 1158, 91),
  (yX9_misread, cX9_misread, 5, some .int, 1, 0, 3, 1154, 117, 1152, 1153)]
noncomputable def am_inf_11 : List Inf := [(yX9_readLetter, cX9_readLetter, 3, some .int, 1, 0, 2, 1175, 117, 1174, 93),
  (yX9_readAs, cX9_readAs, 3, some .int, 2, 0, 2, 1171, 117, 1170, 92),
  (yX9_isWord, cX9_isWord, 1, some .boolean, 1, 1, 1, 1166, 117, 1165, 0),
  (yX9_read, cX9_read, 3, some .int, 3, 0, 2, 1163, 117, 1161, 1162),
  (yX9_mayStand, cX9_mayStand, 9, some .boolean, 0, 0, 1, 1188, 117, 1187, 95),
  (yX9_areLinked, cX9_areLinked, 6, some .boolean, 1, 0, 2, 1192, 117, 1191, 96),
  (yX9_layWords, cX9_layWords, 10, some .boolean, 3, 0, 1, 1184, 117, 1183, 94),
  (yX9_words, cX9_words, 4, some .int, 5, 0, 3, 1179, 117, 1177, 1178),
  (yX9_isAlive, cX9_isAlive, 4, some .boolean, 0, 0, 1, 1200, 117, 1199, 97),
  (yX9_who, cX9_who, 9, some .int, 3, 0, 2, 1196, 117, 1194, 1195),
  (yX9_codeOf, cX9_codeOf, 4, some .int, 0, 0, 1, 1216, 117, 1215, 99),
  (yX9_get, cX9_get, 6, none, 3, 0, 3, 1208, 117, 1207, 98),
  (yX9_give, cX9_give, 5, some .int, 5, 0, 2, 1204, 117, 1202, 1203),
  (yX9_leadOf, cX9_leadOf, 6, some .int, 1, 0, 2, 1223, 117, 1222, 100)]
noncomputable def am_inf_12 : List Inf := [(yX9_size, cX9_size, 1, some .int, 0, 1, 1, 1219, 117, 1218, 0),
  (yX9_split, cX9_split, 11, some .int, 4, 0, 2, 1212, 117, 1210, 1211),
  (yX9_mayPass, cX9_mayPass, 8, some .boolean, 4, 0, 3, 1237, 117, 1236, 102),
  (yX9_isAsk, cX9_isAsk, 4, some .boolean, 0, 0, 3, 1232, 117, 1231, 101),
  (yX9_ask, cX9_ask, 4, some .int, 5, 0, 3, 1227, 117, 1225, 1226),
  (yX9_pass, cX9_pass, 4, some .int, 5, 0, 3, 1242, 117, 1240, 1241),
  (yX9_code, cX9_code, 3, some .int, 2, 0, 2, 1246, 117, 1244, 1245),
  (yX9_lead, cX9_lead, 4, some .int, 2, 0, 2, 1250, 117, 1248, 1249),
  (yX9_layCodes, cX9_layCodes, 5, none, 1, 0, 1, 1259, 117, 1258, 103),
  (yX9_weightOf, cX9_weightOf, 4, some .int, 1, 0, 1, 1263, 117, 1262, 104),
  (yX9_rounds, cX9_rounds, 9, some .int, 2, 0, 3, 1254, 117, 1252, 1253),
  (yX9_fullYear, cX9_fullYear, 4, some .int, 3, 0, 2, 1267, 117, 1265, 1266),
  (yX9_edition, cX9_edition, 2, some .int, 1, 0, 0, 1271, 117, 1269, 1270),
  (yX9_book, cX9_book, 4, some .int, 2, 0, 2, 1275, 117, 1273, 1274)]
noncomputable def am_inf_13 : List Inf := [(yX9_wrong, cX9_wrong, 7, some .int, 2, 0, 2, 1279, 117, 1277, 1278),
  (yX9_copy, cX9_copy, 4, none, 0, 0, 2, 1287, 117, 1286, 105),
  (yX9_keep, cX9_keep, 1, some .int, 1, 0, 0, 1283, 117, 1281, 1282),
  (yX9_back, cX9_back, 1, some .int, 1, 0, 0, 1291, 117, 1289, 1290),
  (yX9_count, cX9_count, 5, some .int, 2, 0, 1, 1295, 117, 1293, 1294),
  (yL_law, code, 4, some .boolean, 8, 2, 1, 0, 0, 0, 0),
  (yX3_dayLookedAt, cX3_dayLookedAt, 2, some .int, 3, 0, 1, 491, 112, 490, 16),
  (yX3_fits, cX3_fits, 4, some .boolean, 3, 0, 3, 506, 112, 505, 19)]
noncomputable def am_infs : List (List Inf) := [am_inf_0, am_inf_1, am_inf_2, am_inf_3, am_inf_4, am_inf_5, am_inf_6, am_inf_7, am_inf_8, am_inf_9, am_inf_10, am_inf_11, am_inf_12, am_inf_13]
noncomputable def am_inf (m : Nat) : Option Inf := match am_nth am_infs (m / 14) with
  | none => none
  | some c => am_nth c (m % 14)
def am_GW : List Cond := lw_tbl.filter goodWord
def am_in (i : Nat) (w : Cond) : Bool := decide (lw_tbl[i]? = some w) && goodWord w
theorem am_in_ok {i : Nat} {w : Cond} (h : am_in i w = true) : w ∈ am_GW := by
  simp only [am_in, Bool.and_eq_true, decide_eq_true_eq] at h
  exact List.mem_filter.mpr ⟨List.mem_of_getElem? h.1, h.2⟩
theorem am_good {ws : List Cond} (h : ∀ w ∈ ws, w ∈ am_GW) : GoodIn am_GW ws := fun w hw => ⟨h w hw, good_of_word (List.mem_filter.mp (h w hw)).2⟩
def am_C (ci : Nat) : vw_C := vwCl.getD ci (RX0, TX0, 4)
def am_fw (own : String) (idx ci k : Nat) : Cond := .fieldLink own idx ((am_C ci).2.1 k).1 ((am_C ci).2.1 k).2.1 ((am_C ci).2.1 k).2.2.1
def am_fwN (own : String) (idx ci k : Nat) : Cond := .fieldLinkNest own idx ((am_C ci).2.1 k).1 ((am_C ci).2.1 k).2.1 ((am_C ci).2.1 k).2.2.1 RX8
set_option maxRecDepth 100000 in
set_option maxHeartbeats 4000000 in
theorem am_fls_all : am_fls.all (fun q => am_in q.2.2.2.2 (am_fw q.1 q.2.1 q.2.2.1 q.2.2.2.1)) = true := by decide +kernel
set_option maxRecDepth 100000 in
set_option maxHeartbeats 4000000 in
theorem am_flsN_all : am_flsN.all (fun q => decide (lw_tbl[q.2.2.2.2]? = some (am_fwN q.1 q.2.1 q.2.2.1 q.2.2.2.1))) = true := by decide +kernel
set_option maxRecDepth 100000 in
set_option maxHeartbeats 4000000 in
theorem am_mls_all : am_mls.all (fun q => am_in q.2.2.2 (.methodLink q.1 q.2.1 q.2.2.1)) = true := by decide +kernel
set_option maxRecDepth 100000 in
set_option maxHeartbeats 4000000 in
theorem am_mlsN_all : am_mlsN.all (fun q => decide (lw_tbl[q.2.2.2]? = some (.methodLinkNest q.1 q.2.1 q.2.2.1 RX8))) = true := by decide +kernel
set_option maxRecDepth 100000 in
set_option maxHeartbeats 4000000 in
theorem am_cps_all : am_cps.all (fun q => am_in q.2.2 (.methodLink q.1 q.2.1 arraycopyName)) = true := by decide +kernel
def am_mname : Nat → MethodName
  | 3 => Lib.Math.max.name
  | 4 => Lib.Math.min.name
  | _ => Lib.Math.abs.name
set_option maxRecDepth 100000 in
set_option maxHeartbeats 4000000 in
theorem am_mths_all : am_mths.all (fun q => am_in q.2.2.2 (.methodLink q.1 q.2.1 (am_mname q.2.2.1))) = true := by decide +kernel
set_option maxRecDepth 100000 in
set_option maxHeartbeats 4000000 in
theorem am_csts_all : am_csts.all (fun q => am_in q.2.2.2 (.constant q.1 q.2.1 q.2.2.1)) = true := by decide +kernel
set_option maxRecDepth 100000 in
set_option maxHeartbeats 4000000 in
theorem am_cstLs_all : am_cstLs.all (fun q => am_in q.2.2.2 (.constantLong q.1 q.2.1 q.2.2.1)) = true := by decide +kernel
set_option maxRecDepth 100000 in
theorem am_w_native : Cond.native arraycopyName ∈ am_GW := am_in_ok (i := 594) (by decide +kernel)
set_option maxRecDepth 100000 in
theorem am_w_static : Cond.static arraycopyName ∈ am_GW := am_in_ok (i := 593) (by decide +kernel)
set_option maxRecDepth 100000 in
theorem am_w_sys : Cond.initialized "java/lang/System" ∈ am_GW := am_in_ok (i := 119) (by decide +kernel)
set_option maxRecDepth 100000 in
set_option maxHeartbeats 4000000 in
theorem am_uws_all : (List.range 10).all (fun ci => (u_ws (am_C ci).1 (am_C ci).2.1 (am_C ci).2.2).all (fun w => decide (w ∈ lw_tbl) && goodWord w)) = true := by decide +kernel
theorem am_uws {ci : Nat} (h : ci < 10) : ∀ w ∈ u_ws (am_C ci).1 (am_C ci).2.1 (am_C ci).2.2, w ∈ am_GW := by
  intro w hw
  have h1 := List.all_eq_true.mp (List.all_eq_true.mp am_uws_all ci (List.mem_range.mpr h)) w hw
  simp only [Bool.and_eq_true, decide_eq_true_eq] at h1
  exact List.mem_filter.mpr h1
theorem am_C_get {ci : Nat} (h : ci < 10) : vwCl[ci]? = some (am_C ci) := by
  have : ci < vwCl.length := h
  rw [am_C, List.getD_eq_getElem?_getD, List.getElem?_eq_getElem this]; rfl
def am_dd (cc : ByteArray) (pc : Nat) (i : Instr) (len n : Nat) : Bool := decide (decode cc pc = .ok (i, len)) && decide (n = pc + len)
def am_fok (own : String) (j a b : Nat) : Bool := decide (a < 10) && decide (b < (am_C a).2.2) && (am_fls.any (fun q => Nat.beq q.2.1 j && Nat.beq q.2.2.1 a && Nat.beq q.2.2.2.1 b && decide (q.1 = own)) || am_flsN.any (fun q => Nat.beq q.2.1 j && Nat.beq q.2.2.1 a && Nat.beq q.2.2.2.1 b && decide (q.1 = own)))
def am_pok (a b c : Nat) : Bool := decide (((am_C a).2.1 b).2.2.2 = false) && decide (parseFieldDescriptor ((am_C a).2.1 b).2.2.1 = some (if c = 0 then .int else .boolean))
def am_swok (pc : Nat) (lo hi : Int) (offs : Array Int) (l : List (Int32 × Nat)) : Bool := decide ((l.length : Int) = hi - lo + 1) && (List.range l.length).all (fun j => match l[j]? with
  | none => false
  | some q => decide (q.1.toInt = lo + (j : Int)) && (match offs[j]? with
    | none => false
    | some o => decide ((pc : Int) + o = (q.2 : Int))))
/-- a call's words: kind 0 by an object, 1 without -/
noncomputable def am_iok (own : String) (j a b c dp kd : Nat) : Bool := if a = 0 then true else match am_inf a with
  | none => false
  | some q => Nat.beq q.2.2.2.2.2.1 kd && Nat.blt q.2.2.2.2.1 dp && Nat.beq b (q.2.2.2.2.2.2.1 + (1 - kd)) && decide (c = if q.2.2.2.1 = none then 0 else 1) && (am_mls.any (fun z => Nat.beq z.2.1 j && decide (z.1 = own) && decide (z.2.2.1 = q.1)) || am_mlsN.any (fun z => Nat.beq z.2.1 j && decide (z.1 = own) && decide (z.2.2.1 = q.1)))
noncomputable def am_okb (q : Inf) (pc : Nat) (e : En) : Bool := match e with
  | (i, n, a, b, c, v, w) => match i with
  | .iconst z => am_dd q.2.1 pc (.iconst z) 1 n && decide (Int32.ofInt z = v)
  | .bipush z => am_dd q.2.1 pc (.bipush z) 2 n && decide ((Int8.ofInt z).toInt32 = v)
  | .sipush z => am_dd q.2.1 pc (.sipush z) 3 n && decide ((Int16.ofInt z).toInt32 = v)
  | .ldc z => am_dd q.2.1 pc (.ldc z) 2 n && am_csts.any (fun y => Nat.beq y.2.1 z && decide (y.2.2.1 = v) && decide (y.1 = q.1.cls))
  | .ldc_w z => am_dd q.2.1 pc (.ldc_w z) 3 n && am_csts.any (fun y => Nat.beq y.2.1 z && decide (y.2.2.1 = v) && decide (y.1 = q.1.cls))
  | .lconst z => am_dd q.2.1 pc (.lconst z) 1 n && decide (Int64.ofNat (z : Nat) = w)
  | .ldc2_w z => am_dd q.2.1 pc (.ldc2_w z) 3 n && am_cstLs.any (fun y => Nat.beq y.2.1 z && decide (y.2.2.1 = w) && decide (y.1 = q.1.cls))
  | .iload z => am_dd q.2.1 pc (.iload z) 2 n && decide (z = a)
  | .iload_n z => am_dd q.2.1 pc (.iload_n z) 1 n && decide ((z : Nat) = a)
  | .lload z => am_dd q.2.1 pc (.lload z) 2 n && decide (z = a)
  | .lload_n z => am_dd q.2.1 pc (.lload_n z) 1 n && decide ((z : Nat) = a)
  | .aload z => am_dd q.2.1 pc (.aload z) 2 n && decide (z = a)
  | .aload_n z => am_dd q.2.1 pc (.aload_n z) 1 n && decide ((z : Nat) = a)
  | .istore z => am_dd q.2.1 pc (.istore z) 2 n && decide (z = a)
  | .istore_n z => am_dd q.2.1 pc (.istore_n z) 1 n && decide ((z : Nat) = a)
  | .iinc z d => am_dd q.2.1 pc (.iinc z d) 3 n && decide (z = a) && decide (Int32.ofInt d = v)
  | .goto o => decide (decode q.2.1 pc = .ok (.goto o, 3)) && decide ((pc : Int) + o = (a : Int))
  | .ifCond cd o => am_dd q.2.1 pc (.ifCond cd o) 3 n && decide ((pc : Int) + o = (a : Int))
  | .if_icmp cd o => am_dd q.2.1 pc (.if_icmp cd o) 3 n && decide ((pc : Int) + o = (a : Int))
  | .tableswitch d lo hi offs => decide (decode q.2.1 pc = .ok (.tableswitch d lo hi offs, n - pc)) && decide ((pc : Int) + d = (a : Int)) && (match am_nth am_switches b with
    | none => false
    | some l => am_swok pc lo hi offs l)
  | .getfield j => am_dd q.2.1 pc (.getfield j) 3 n && am_fok q.1.cls j a b
  | .putfield j => am_dd q.2.1 pc (.putfield j) 3 n && am_fok q.1.cls j a b && am_pok a b c
  | .invokevirtual j => am_dd q.2.1 pc (.invokevirtual j) 3 n && am_iok q.1.cls j a b c q.2.2.2.2.1 0
  | .invokestatic j => am_dd q.2.1 pc (.invokestatic j) 3 n && (if c = 2 then am_cps.any (fun z => Nat.beq z.2.1 j && decide (z.1 = q.1.cls)) && Nat.blt 0 q.2.2.2.2.1 else if c = 3 ∨ c = 4 ∨ c = 5 then am_mths.any (fun z => Nat.beq z.2.1 j && Nat.beq z.2.2.1 c && decide (z.1 = q.1.cls)) && Nat.blt 0 q.2.2.2.2.1 else am_iok q.1.cls j a b c q.2.2.2.2.1 1)
  | .ireturn => am_dd q.2.1 pc .ireturn 1 n && ((decide (c = 0) && decide (q.2.2.2.1 = some .int)) || (decide (c = 1) && decide (q.2.2.2.1 = some .boolean)))
  | .return_ => am_dd q.2.1 pc .return_ 1 n && decide (q.2.2.2.1 = none)
  | .iadd | .isub | .imul | .iand | .ior | .ixor | .ishl | .ishr | .idiv | .irem | .ineg | .i2l | .l2i | .i2b | .land | .lor | .lshl | .lshr | .lcmp | .dup | .dup2 | .arraylength | .iaload | .baload | .iastore | .bastore | .aaload => am_dd q.2.1 pc i 1 n
  | _ => false
/-- what is asked of a method's own row: a callee's words stand; the law's own row is free -/
noncomputable def am_iwok (q : Inf) : Bool := Nat.ble q.2.2.1 40 && (match q.2.2.2.2.2.1 with
  | 0 => plainName q.1.cls && decide (q.1.cls ≠ "java/lang/invoke/MethodHandle") && decide (q.1.cls ≠ "java/lang/invoke/VarHandle") && decide ((parseMethodDescriptor q.1.desc).map (fun d => d.parameters.length) = some q.2.2.2.2.2.2.1) && am_in q.2.2.2.2.2.2.2.1 (.code q.1 q.2.1 q.2.2.1 q.2.2.2.1) && am_in q.2.2.2.2.2.2.2.2.1 (.initialized q.1.cls) && am_in q.2.2.2.2.2.2.2.2.2.1 (.instanceMethod q.1) && am_in q.2.2.2.2.2.2.2.2.2.2 (.selects q.1.cls q.1 q.1)
  | 1 => plainName q.1.cls && decide (q.1.cls ≠ "java/lang/invoke/MethodHandle") && decide (q.1.cls ≠ "java/lang/invoke/VarHandle") && decide ((parseMethodDescriptor q.1.desc).map (fun d => d.parameters.length) = some q.2.2.2.2.2.2.1) && am_in q.2.2.2.2.2.2.2.1 (.code q.1 q.2.1 q.2.2.1 q.2.2.2.1) && am_in q.2.2.2.2.2.2.2.2.1 (.initialized q.1.cls) && am_in q.2.2.2.2.2.2.2.2.2.1 (.static q.1)
  | _ => true)
noncomputable def am_chk (m : Nat) : Bool := match am_inf m with
  | none => false
  | some q => match am_mth m with
    | none => false
    | some t => am_iwok q && Nat.beq t.1 q.2.2.1 && (match q.2.2.2.2.2.1 with
      | 0 => decide (t.2.1 < 10) && decide ((am_C t.2.1).1 = q.1.cls)
      | _ => true) && t.2.2.2.all (fun ch => ch.all (fun z => am_okb q z.1 z.2))

set_option maxRecDepth 100000 in
theorem am_w_m3 : Cond.static Lib.Math.max.name ∈ am_GW ∧ Cond.code Lib.Math.max.name Lib.Math.max.code 2 (some .int) ∈ am_GW := ⟨am_in_ok (i := 726) (by decide +kernel), am_in_ok (i := 727) (by decide +kernel)⟩
set_option maxRecDepth 100000 in
theorem am_w_m4 : Cond.static Lib.Math.min.name ∈ am_GW ∧ Cond.code Lib.Math.min.name Lib.Math.min.code 2 (some .int) ∈ am_GW := ⟨am_in_ok (i := 464) (by decide +kernel), am_in_ok (i := 465) (by decide +kernel)⟩
set_option maxRecDepth 100000 in
theorem am_w_m5 : Cond.static Lib.Math.abs.name ∈ am_GW ∧ Cond.code Lib.Math.abs.name Lib.Math.abs.code 1 (some .int) ∈ am_GW := ⟨am_in_ok (i := 747) (by decide +kernel), am_in_ok (i := 748) (by decide +kernel)⟩
set_option maxRecDepth 100000 in
theorem am_w_math : Cond.initialized "java/lang/Math" ∈ am_GW := am_in_ok (i := 118) (by decide +kernel)

