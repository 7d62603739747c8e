/-! words, by their places -/
def am_pmT (k : Nat) : List (Nat × (Nat × Nat × Nat)) := match k with
  | 0 => [(3, (72, 58, 59)), (21, (73, 74, 75)), (50, (530, 369, 0)), (54, (785, 599, 600)), (58, (786, 603, 604)), (61, (642, 566, 567)), (65, (638, 639, 640))]
  | 1 => [(3, (163, 58, 59)), (17, (166, 167, 0)), (26, (564, 388, 389)), (32, (565, 566, 567)), (42, (569, 570, 571)), (49, (579, 580, 581)), (56, (583, 522, 523)), (64, (665, 666, 667)), (74, (670, 671, 672)), (77, (669, 575, 576)), (81, (674, 585, 586)), (84, (675, 553, 554)), (87, (656, 561, 562)), (91, (657, 658, 659)), (98, (661, 662, 663))]
  | 2 => [(1, (243, 58, 59))]
  | 3 => [(3, (236, 58, 59)), (21, (240, 241, 0)), (38, (765, 369, 0)), (42, (651, 388, 389)), (84, (647, 648, 649)), (88, (774, 775, 776)), (91, (787, 788, 789)), (98, (778, 603, 604)), (102, (779, 599, 600)), (105, (780, 553, 554)), (109, (781, 782, 783)), (119, (791, 792, 793))]
  | 4 => [(3, (65, 58, 59)), (31, (69, 70, 0)), (32, (516, 74, 75)), (36, (539, 540, 541)), (39, (391, 369, 0)), (43, (521, 522, 523)), (50, (615, 575, 576)), (57, (616, 603, 604)), (61, (737, 612, 613)), (64, (738, 739, 0))]
  | 5 => [(3, (169, 58, 59)), (24, (573, 522, 523)), (30, (574, 575, 576)), (34, (578, 553, 554))]
  | 6 => [(3, (204, 58, 59)), (33, (692, 388, 389)), (46, (693, 566, 567)), (52, (694, 561, 562)), (58, (695, 696, 697)), (62, (709, 710, 711)), (66, (699, 369, 0)), (73, (700, 662, 663)), (77, (701, 702, 703)), (81, (705, 706, 707)), (85, (717, 718, 719))]
  | 7 => [(3, (307, 58, 59)), (32, (368, 369, 0)), (36, (383, 384, 385)), (45, (392, 393, 394)), (48, (403, 404, 405)), (58, (495, 496, 497)), (67, (387, 388, 389)), (79, (396, 397, 398)), (83, (400, 401, 0)), (86, (407, 408, 409)), (90, (472, 473, 0)), (93, (475, 476, 477)), (96, (491, 492, 493)), (100, (411, 412, 0)), (104, (420, 421, 422)), (108, (424, 425, 426)), (112, (434, 435, 436)), (127, (479, 480, 481)), (130, (483, 484, 485)), (133, (487, 488, 489)), (136, (508, 509, 510)), (139, (512, 513, 514)), (142, (517, 518, 519)), (146, (525, 74, 75)), (151, (526, 527, 528)), (155, (531, 532, 533))]
  | 8 => [(3, (57, 58, 59)), (11, (62, 63, 0)), (18, (160, 161, 0)), (27, (201, 202, 0)), (36, (233, 234, 0)), (43, (304, 305, 0)), (48, (364, 365, 366)), (56, (379, 380, 381)), (60, (504, 505, 506)), (63, (535, 536, 537)), (66, (543, 544, 545)), (72, (551, 522, 523)), (75, (552, 553, 554)), (79, (560, 561, 562)), (83, (584, 585, 586)), (86, (592, 388, 389)), (104, (593, 566, 567)), (116, (598, 599, 600)), (120, (602, 603, 604)), (123, (606, 575, 576)), (126, (611, 612, 613)), (129, (621, 518, 519)), (139, (634, 635, 636)), (142, (643, 644, 645)), (145, (652, 653, 654)), (148, (676, 677, 678)), (152, (688, 689, 690)), (156, (713, 714, 715)), (159, (725, 726, 727)), (162, (733, 734, 735)), (165, (745, 746, 747)), (169, (761, 762, 763)), (174, (770, 771, 772)), (177, (799, 639, 640)), (180, (800, 662, 663)), (188, (805, 570, 571)), (197, (806, 807, 0)), (205, (816, 658, 659)), (208, (821, 822, 823)), (214, (843, 844, 845)), (233, (847, 648, 649)), (237, (848, 792, 793)), (244, (853, 854, 855))]
  | 9 => [(1, (862, 58, 59)), (93, (863, 865, 0)), (97, (1000, 1001, 0)), (103, (867, 869, 1)), (126, (1019, 1020, 0)), (130, (1024, 1025, 0)), (133, (1015, 1017, 3)), (139, (1041, 1043, 7)), (143, (1045, 1047, 8)), (147, (1033, 1035, 5)), (151, (1037, 1039, 6)), (158, (1049, 1051, 9)), (164, (1029, 1031, 4)), (168, (1011, 1013, 2)), (187, (1085, 1086, 0)), (197, (1081, 1083, 14)), (204, (1077, 1079, 13)), (208, (1151, 1153, 22)), (211, (1155, 1157, 23)), (214, (1147, 1149, 21)), (218, (1183, 1185, 28)), (221, (1096, 1098, 15)), (225, (1143, 1145, 20)), (228, (1179, 1181, 27)), (231, (1069, 1071, 11)), (234, (1073, 1075, 12)), (237, (1175, 1177, 26)), (240, (1061, 1063, 10)), (243, (1092, 1093, 0)), (246, (1108, 1110, 16)), (255, (1131, 1133, 17)), (258, (1135, 1137, 18)), (261, (1139, 1141, 19)), (264, (1159, 1161, 24)), (267, (1171, 1173, 25)), (270, (1195, 1197, 29)), (273, (1203, 1205, 30)), (276, (1223, 1225, 31)), (279, (1231, 1233, 32)), (282, (1255, 1257, 33)), (285, (1271, 1273, 34))]
  | 12 => [(335, (428, 429, 430)), (492, (438, 439, 440)), (495, (442, 443, 0)), (1059, (450, 451, 0))]
  | 13 => [(9, (445, 446, 0))]
  | 14 => [(9, (54, 55, 0)), (12, (859, 860, 0)), (13, (360, 361, 362)), (17, (995, 996, 997)), (18, (371, 372, 373)), (22, (1003, 1004, 1005)), (23, (375, 376, 377)), (26, (1007, 1008, 1009)), (27, (500, 501, 502)), (30, (1053, 1054, 1055)), (31, (547, 548, 549)), (35, (1057, 1058, 1059)), (36, (556, 557, 558)), (39, (1065, 1066, 1067)), (40, (588, 589, 590)), (43, (1088, 1089, 1090)), (44, (594, 595, 596)), (48, (1100, 1101, 1102)), (49, (607, 608, 609)), (52, (1104, 1105, 1106)), (53, (617, 618, 619)), (56, (1112, 1113, 1114)), (57, (622, 623, 624)), (60, (1117, 1118, 1119)), (61, (626, 627, 628)), (64, (1122, 1123, 1124)), (65, (630, 631, 632)), (68, (1127, 1128, 1129)), (69, (680, 681, 682)), (72, (1163, 1164, 1165)), (73, (684, 685, 686)), (76, (1167, 1168, 1169)), (77, (721, 722, 723)), (80, (1187, 1188, 1189)), (81, (729, 730, 731)), (84, (1191, 1192, 1193)), (85, (741, 742, 743)), (88, (1199, 1200, 1201)), (89, (749, 750, 751)), (92, (1207, 1208, 1209)), (93, (753, 754, 755)), (96, (1211, 1212, 1213)), (97, (757, 758, 759)), (100, (1215, 1216, 1217)), (101, (766, 767, 768)), (104, (1219, 1220, 1221)), (105, (795, 796, 797)), (108, (1227, 1228, 1229)), (109, (801, 802, 803)), (112, (1235, 1236, 1237)), (113, (812, 813, 814)), (116, (1239, 1240, 1241)), (117, (817, 818, 819)), (120, (1243, 1244, 1245)), (121, (825, 826, 827)), (124, (1247, 1248, 1249)), (125, (829, 830, 831)), (128, (1251, 1252, 1253)), (129, (835, 836, 837)), (132, (1259, 1260, 1261)), (133, (839, 840, 841)), (136, (1263, 1264, 1265)), (137, (849, 850, 851)), (140, (1267, 1268, 1269))]
  | _ => []
def am_pfT (k : Nat) : List (Nat × Nat) := match k with
  | 0 => [(9, 95), (15, 96), (18, 107), (25, 77), (29, 82), (32, 87), (35, 90), (38, 99), (41, 103), (44, 108), (47, 110)]
  | 1 => [(9, 188), (18, 189), (22, 191), (38, 98), (46, 88), (53, 178), (60, 176), (68, 91), (71, 171), (95, 141)]
  | 2 => [(7, 254), (13, 256)]
  | 3 => [(9, 275), (17, 276), (22, 277), (26, 279), (29, 281), (32, 283), (35, 285), (48, 244), (51, 80), (56, 246), (59, 248), (62, 250), (65, 111), (68, 251), (71, 104), (74, 252), (78, 255), (81, 257), (95, 102), (113, 86), (116, 93)]
  | 4 => [(9, 139), (15, 143), (18, 136), (21, 145), (27, 146), (47, 101), (54, 106)]
  | 5 => [(9, 177), (15, 78), (21, 170), (37, 173), (40, 83), (43, 175)]
  | 6 => [(9, 205), (15, 206), (19, 209), (23, 212), (26, 210), (30, 211), (39, 97), (45, 207), (50, 208), (70, 140)]
  | 7 => [(9, 308), (15, 309), (19, 315), (22, 319), (25, 320), (28, 310), (39, 316), (42, 314), (52, 313), (55, 312), (61, 137), (66, 318), (71, 79), (76, 84), (149, 94)]
  | 8 => [(12, 344), (21, 345), (30, 346), (37, 347), (44, 348), (52, 311), (69, 317), (90, 81), (95, 85), (98, 89), (101, 92), (107, 100), (110, 105), (113, 109), (133, 142), (136, 144), (171, 278), (184, 190), (194, 172), (202, 174), (218, 245), (223, 247), (226, 249), (229, 253), (241, 138), (247, 280), (250, 282), (253, 284), (256, 286)]
  | 9 => [(7, 871), (13, 872), (17, 873), (20, 874), (23, 875), (26, 876), (29, 877), (32, 878), (35, 879), (38, 880), (41, 881), (44, 882), (47, 883), (50, 884), (53, 885), (56, 886), (59, 892), (62, 897), (65, 898), (68, 901), (71, 902), (74, 903), (77, 907), (80, 908), (83, 909), (87, 910), (90, 911), (109, 893), (120, 895), (123, 894), (136, 896), (154, 900), (161, 899), (172, 887), (175, 888), (178, 889), (181, 890), (184, 891), (191, 904), (194, 905), (201, 906)]
  | 12 => [(9, 1275), (15, 1276)]
  | _ => []
def am_pcT (k : Nat) : List (Nat × Nat) := match k with
  | 1 => [(15, 164)]
  | 3 => [(15, 237)]
  | 4 => [(25, 66)]
  | 8 => [(9, 60), (16, 158), (25, 199), (34, 231), (41, 302)]
  | 14 => [(7, 52), (10, 857)]
  | _ => []
def am_pkT (k : Nat) : List (Nat × Nat) := match k with
  | 7 => [(116, 414), (117, 415), (119, 416), (121, 417), (123, 418), (125, 419)]
  | 10 => [(265, 809), (266, 810), (267, 811)]
  | _ => []
def am_plT (k : Nat) : List (Nat × Nat) := match k with
  | 9 => [(101, 1095), (107, 999), (112, 1022), (114, 1023), (116, 1027), (118, 1028), (249, 1116), (251, 1121), (253, 1126)]
  | _ => []
def am_psT (k : Nat) : List (Nat × Nat) := match k with
  | 8 => [(210, 833)]
  | 12 => [(38, 432), (1053, 448)]
  | _ => []
def am_wi (p : Nat) (c : Cond) : Bool := decide (lw_tbl[p]? = some c)
theorem am_wi_in {p : Nat} {c : Cond} (h : am_wi p c = true) : c ∈ lw_tbl := List.mem_of_getElem? (of_decide_eq_true h)
def am_pw (k : Nat) : Nat := match k with
  | 0 => 71
  | 1 => 76
  | 2 => 542
  | 3 => 529
  | 4 => 534
  | 5 => 601
  | 6 => 605
  | 7 => 577
  | 8 => 784
  | 9 => 568
  | 10 => 641
  | 11 => 637
  | 12 => 679
  | 13 => 728
  | 14 => 162
  | 15 => 563
  | 16 => 582
  | 17 => 587
  | 18 => 664
  | 19 => 668
  | 20 => 673
  | 21 => 655
  | 22 => 660
  | 23 => 242
  | 24 => 794
  | 25 => 235
  | 26 => 546
  | 27 => 846
  | 28 => 764
  | 29 => 650
  | 30 => 646
  | 31 => 748
  | 32 => 773
  | 33 => 777
  | 34 => 790
  | 35 => 64
  | 36 => 515
  | 37 => 538
  | 38 => 524
  | 39 => 390
  | 40 => 555
  | 41 => 520
  | 42 => 856
  | 43 => 614
  | 44 => 736
  | 45 => 168
  | 46 => 572
  | 47 => 203
  | 48 => 691
  | 49 => 698
  | 50 => 704
  | 51 => 708
  | 52 => 712
  | 53 => 824
  | 54 => 716
  | 55 => 720
  | 56 => 306
  | 57 => 367
  | 58 => 382
  | 59 => 386
  | 60 => 399
  | 61 => 395
  | 62 => 402
  | 63 => 498
  | 64 => 406
  | 65 => 410
  | 66 => 423
  | 67 => 413
  | 68 => 474
  | 69 => 482
  | 70 => 490
  | 71 => 486
  | 72 => 478
  | 73 => 494
  | 74 => 507
  | 75 => 511
  | 76 => 56
  | 77 => 363
  | 78 => 374
  | 79 => 378
  | 80 => 503
  | 81 => 550
  | 82 => 559
  | 83 => 591
  | 84 => 597
  | 85 => 610
  | 86 => 620
  | 87 => 625
  | 88 => 629
  | 89 => 633
  | 90 => 683
  | 91 => 687
  | 92 => 724
  | 93 => 732
  | 94 => 744
  | 95 => 752
  | 96 => 756
  | 97 => 760
  | 98 => 769
  | 99 => 798
  | 100 => 804
  | 101 => 815
  | 102 => 820
  | 103 => 828
  | 104 => 832
  | 105 => 838
  | 106 => 842
  | 107 => 852
  | 108 => 370
  | 109 => 861
  | 110 => 1002
  | 111 => 1087
  | 112 => 1064
  | 113 => 1094
  | 114 => 870
  | 115 => 866
  | 116 => 998
  | 117 => 1006
  | 118 => 1021
  | 119 => 1026
  | 120 => 1018
  | 121 => 1036
  | 122 => 1044
  | 123 => 1048
  | 124 => 1040
  | 125 => 1052
  | 126 => 1032
  | 127 => 1014
  | 128 => 1010
  | 129 => 1056
  | 130 => 1099
  | 131 => 1084
  | 132 => 1080
  | 133 => 1076
  | 134 => 1072
  | 135 => 1158
  | 136 => 1154
  | 137 => 1150
  | 138 => 1146
  | 139 => 1186
  | 140 => 1182
  | 141 => 1178
  | 142 => 1174
  | 143 => 1060
  | 144 => 1068
  | 145 => 1091
  | 146 => 1103
  | 147 => 1111
  | 148 => 1107
  | 149 => 1198
  | 150 => 1115
  | 151 => 1120
  | 152 => 1125
  | 153 => 1134
  | 154 => 1162
  | 155 => 1138
  | 156 => 1206
  | 157 => 1130
  | 158 => 1166
  | 159 => 1170
  | 160 => 1190
  | 161 => 1194
  | 162 => 1202
  | 163 => 1210
  | 164 => 1214
  | 165 => 1218
  | 166 => 1226
  | 167 => 1222
  | 168 => 1234
  | 169 => 1230
  | 170 => 1238
  | 171 => 1142
  | 172 => 1242
  | 173 => 1246
  | 174 => 1250
  | 175 => 1258
  | 176 => 1254
  | 177 => 1262
  | 178 => 1266
  | 179 => 1274
  | 180 => 1270
  | 181 => 808
  | 182 => 740
  | 183 => 427
  | 184 => 437
  | 185 => 431
  | 186 => 441
  | 187 => 447
  | 188 => 444
  | 189 => 452
  | _ => 0
def am_pi (k : Nat) : Nat := match k with
  | 0 => 38
  | 1 => 39
  | 2 => 43
  | 3 => 42
  | 4 => 37
  | 5 => 40
  | 6 => 41
  | 7 => 44
  | 8 => 36
  | 9 => 45
  | 10 => 51
  | 11 => 50
  | 12 => 46
  | 13 => 47
  | 14 => 35
  | 15 => 48
  | _ => 0
def am_cwm (m : Nat) : Bool := am_wi (am_pw m) (.code (am_y m) (am_by m) (am_ml m) (am_rt m)) && goodWord (.code (am_y m) (am_by m) (am_ml m) (am_rt m))
-- the law is method 190
set_option maxRecDepth 100000 in
theorem am_cw0 : lw_tbl[71]? = some (.code (am_y 0) prog_2_method_1_code 1 (Option.none : Option Jvm.ClassFile.FieldType)) := rfl
set_option maxRecDepth 100000 in
theorem am_cw1 : lw_tbl[76]? = some (.code (am_y 1) prog_2_method_2_code 5 (Option.none : Option Jvm.ClassFile.FieldType)) := rfl
set_option maxRecDepth 100000 in
theorem am_cw2 : lw_tbl[542]? = some (.code (am_y 2) prog_2_method_3_code 1 (Option.none : Option Jvm.ClassFile.FieldType)) := rfl
set_option maxRecDepth 100000 in
theorem am_cw3 : lw_tbl[529]? = some (.code (am_y 3) prog_2_method_4_code 3 (Option.none : Option Jvm.ClassFile.FieldType)) := rfl
set_option maxRecDepth 100000 in
theorem am_cw4 : lw_tbl[534]? = some (.code (am_y 4) prog_2_method_5_code 3 (Option.none : Option Jvm.ClassFile.FieldType)) := rfl
set_option maxRecDepth 100000 in
theorem am_cw5 : lw_tbl[601]? = some (.code (am_y 5) prog_2_method_6_code 2 (Option.some Jvm.ClassFile.FieldType.int)) := rfl
set_option maxRecDepth 100000 in
theorem am_cw6 : lw_tbl[605]? = some (.code (am_y 6) prog_2_method_7_code 2 (Option.some Jvm.ClassFile.FieldType.int)) := rfl
set_option maxRecDepth 100000 in
theorem am_cw7 : lw_tbl[577]? = some (.code (am_y 7) prog_2_method_8_code 3 (Option.some Jvm.ClassFile.FieldType.int)) := rfl
set_option maxRecDepth 100000 in
theorem am_cw8 : lw_tbl[784]? = some (.code (am_y 8) prog_2_method_9_code 2 (Option.some Jvm.ClassFile.FieldType.boolean)) := rfl
set_option maxRecDepth 100000 in
theorem am_cw9 : lw_tbl[568]? = some (.code (am_y 9) prog_2_method_10_code 3 (Option.some Jvm.ClassFile.FieldType.int)) := rfl
set_option maxRecDepth 100000 in
theorem am_cw10 : lw_tbl[641]? = some (.code (am_y 10) prog_2_method_11_code 2 (Option.some Jvm.ClassFile.FieldType.boolean)) := rfl
set_option maxRecDepth 100000 in
theorem am_cw11 : lw_tbl[637]? = some (.code (am_y 11) prog_2_method_12_code 2 (Option.some Jvm.ClassFile.FieldType.boolean)) := rfl
set_option maxRecDepth 100000 in
theorem am_cw12 : lw_tbl[679]? = some (.code (am_y 12) prog_2_method_13_code 2 (Option.none : Option Jvm.ClassFile.FieldType)) := rfl
set_option maxRecDepth 100000 in
theorem am_cw13 : lw_tbl[728]? = some (.code (am_y 13) prog_2_method_14_code 2 (Option.none : Option Jvm.ClassFile.FieldType)) := rfl
set_option maxRecDepth 100000 in
theorem am_cw14 : lw_tbl[162]? = some (.code (am_y 14) prog_3_method_1_code 2 (Option.none : Option Jvm.ClassFile.FieldType)) := rfl
set_option maxRecDepth 100000 in
theorem am_cw15 : lw_tbl[563]? = some (.code (am_y 15) prog_3_method_2_code 5 (Option.none : Option Jvm.ClassFile.FieldType)) := rfl
set_option maxRecDepth 100000 in
theorem am_cw16 : lw_tbl[582]? = some (.code (am_y 16) prog_3_method_3_code 4 (Option.none : Option Jvm.ClassFile.FieldType)) := rfl
set_option maxRecDepth 100000 in
theorem am_cw17 : lw_tbl[587]? = some (.code (am_y 17) prog_3_method_4_code 3 (Option.some Jvm.ClassFile.FieldType.int)) := rfl
set_option maxRecDepth 100000 in
theorem am_cw18 : lw_tbl[664]? = some (.code (am_y 18) prog_3_method_5_code 4 (Option.some Jvm.ClassFile.FieldType.int)) := rfl
set_option maxRecDepth 100000 in
theorem am_cw19 : lw_tbl[668]? = some (.code (am_y 19) prog_3_method_6_code 8 (Option.some Jvm.ClassFile.FieldType.boolean)) := rfl
set_option maxRecDepth 100000 in
theorem am_cw20 : lw_tbl[673]? = some (.code (am_y 20) prog_3_method_7_code 4 (Option.some Jvm.ClassFile.FieldType.boolean)) := rfl
set_option maxRecDepth 100000 in
theorem am_cw21 : lw_tbl[655]? = some (.code (am_y 21) prog_3_method_8_code 6 (Option.some Jvm.ClassFile.FieldType.int)) := rfl
set_option maxRecDepth 100000 in
theorem am_cw22 : lw_tbl[660]? = some (.code (am_y 22) prog_3_method_9_code 5 (Option.some Jvm.ClassFile.FieldType.int)) := rfl
set_option maxRecDepth 100000 in
theorem am_cw23 : lw_tbl[242]? = some (.code (am_y 23) prog_4_method_1_code 1 (Option.none : Option Jvm.ClassFile.FieldType)) := rfl
set_option maxRecDepth 100000 in
theorem am_cw24 : lw_tbl[794]? = some (.code (am_y 24) prog_4_method_2_code 1 (Option.some Jvm.ClassFile.FieldType.boolean)) := rfl
set_option maxRecDepth 100000 in
theorem am_cw25 : lw_tbl[235]? = some (.code (am_y 25) prog_5_method_1_code 3 (Option.none : Option Jvm.ClassFile.FieldType)) := rfl
set_option maxRecDepth 100000 in
theorem am_cw26 : lw_tbl[546]? = some (.code (am_y 26) prog_5_method_2_code 1 (Option.none : Option Jvm.ClassFile.FieldType)) := rfl
set_option maxRecDepth 100000 in
theorem am_cw27 : lw_tbl[846]? = some (.code (am_y 27) prog_5_method_3_code 2 (Option.some (Jvm.ClassFile.FieldType.object "MixedRules$Letter"))) := rfl
set_option maxRecDepth 100000 in
theorem am_cw28 : lw_tbl[764]? = some (.code (am_y 28) prog_5_method_4_code 4 (Option.some Jvm.ClassFile.FieldType.boolean)) := rfl
set_option maxRecDepth 100000 in
theorem am_cw29 : lw_tbl[650]? = some (.code (am_y 29) prog_5_method_5_code 3 (Option.some Jvm.ClassFile.FieldType.int)) := rfl
set_option maxRecDepth 100000 in
theorem am_cw30 : lw_tbl[646]? = some (.code (am_y 30) prog_5_method_6_code 3 (Option.some Jvm.ClassFile.FieldType.boolean)) := rfl
set_option maxRecDepth 100000 in
theorem am_cw31 : lw_tbl[748]? = some (.code (am_y 31) prog_5_method_7_code 5 (Option.some Jvm.ClassFile.FieldType.int)) := rfl
set_option maxRecDepth 100000 in
theorem am_cw32 : lw_tbl[773]? = some (.code (am_y 32) prog_5_method_8_code 6 (Option.some Jvm.ClassFile.FieldType.int)) := rfl
set_option maxRecDepth 100000 in
theorem am_cw33 : lw_tbl[777]? = some (.code (am_y 33) prog_5_method_9_code 5 (Option.some Jvm.ClassFile.FieldType.int)) := rfl
set_option maxRecDepth 100000 in
theorem am_cw34 : lw_tbl[790]? = some (.code (am_y 34) prog_5_method_10_code 3 (Option.none : Option Jvm.ClassFile.FieldType)) := rfl
set_option maxRecDepth 100000 in
theorem am_cw35 : lw_tbl[64]? = some (.code (am_y 35) prog_6_method_1_code 2 (Option.none : Option Jvm.ClassFile.FieldType)) := rfl
set_option maxRecDepth 100000 in
theorem am_cw36 : lw_tbl[515]? = some (.code (am_y 36) prog_6_method_2_code 3 (Option.none : Option Jvm.ClassFile.FieldType)) := rfl
set_option maxRecDepth 100000 in
theorem am_cw37 : lw_tbl[538]? = some (.code (am_y 37) prog_6_method_3_code 2 (Option.none : Option Jvm.ClassFile.FieldType)) := rfl
set_option maxRecDepth 100000 in
theorem am_cw38 : lw_tbl[524]? = some (.code (am_y 38) prog_6_method_4_code 2 (Option.some Jvm.ClassFile.FieldType.boolean)) := rfl
set_option maxRecDepth 100000 in
theorem am_cw39 : lw_tbl[390]? = some (.code (am_y 39) prog_6_method_5_code 2 (Option.some (Jvm.ClassFile.FieldType.object "MixedRules$Flow"))) := rfl
set_option maxRecDepth 100000 in
theorem am_cw40 : lw_tbl[555]? = some (.code (am_y 40) prog_6_method_6_code 3 (Option.some Jvm.ClassFile.FieldType.int)) := rfl
set_option maxRecDepth 100000 in
theorem am_cw41 : lw_tbl[520]? = some (.code (am_y 41) prog_6_method_7_code 4 (Option.none : Option Jvm.ClassFile.FieldType)) := rfl
set_option maxRecDepth 100000 in
theorem am_cw42 : lw_tbl[856]? = some (.code (am_y 42) prog_6_method_8_code 3 (Option.some Jvm.ClassFile.FieldType.int)) := rfl
set_option maxRecDepth 100000 in
theorem am_cw43 : lw_tbl[614]? = some (.code (am_y 43) prog_6_method_9_code 5 (Option.some Jvm.ClassFile.FieldType.int)) := rfl
set_option maxRecDepth 100000 in
theorem am_cw44 : lw_tbl[736]? = some (.code (am_y 44) prog_6_method_10_code 3 (Option.some Jvm.ClassFile.FieldType.int)) := rfl
set_option maxRecDepth 100000 in
theorem am_cw45 : lw_tbl[168]? = some (.code (am_y 45) prog_7_method_1_code 1 (Option.none : Option Jvm.ClassFile.FieldType)) := rfl
set_option maxRecDepth 100000 in
theorem am_cw46 : lw_tbl[572]? = some (.code (am_y 46) prog_7_method_2_code 7 (Option.none : Option Jvm.ClassFile.FieldType)) := rfl
set_option maxRecDepth 100000 in
theorem am_cw47 : lw_tbl[203]? = some (.code (am_y 47) prog_8_method_1_code 3 (Option.none : Option Jvm.ClassFile.FieldType)) := rfl
set_option maxRecDepth 100000 in
theorem am_cw48 : lw_tbl[691]? = some (.code (am_y 48) prog_8_method_2_code 7 (Option.some Jvm.ClassFile.FieldType.boolean)) := rfl
set_option maxRecDepth 100000 in
theorem am_cw49 : lw_tbl[698]? = some (.code (am_y 49) prog_8_method_3_code 3 (Option.none : Option Jvm.ClassFile.FieldType)) := rfl
set_option maxRecDepth 100000 in
theorem am_cw50 : lw_tbl[704]? = some (.code (am_y 50) prog_8_method_4_code 7 (Option.none : Option Jvm.ClassFile.FieldType)) := rfl
set_option maxRecDepth 100000 in
theorem am_cw51 : lw_tbl[708]? = some (.code (am_y 51) prog_8_method_5_code 3 (Option.some Jvm.ClassFile.FieldType.boolean)) := rfl
set_option maxRecDepth 100000 in
theorem am_cw52 : lw_tbl[712]? = some (.code (am_y 52) prog_8_method_6_code 2 (Option.some Jvm.ClassFile.FieldType.int)) := rfl
set_option maxRecDepth 100000 in
theorem am_cw53 : lw_tbl[824]? = some (.code (am_y 53) prog_8_method_7_code 1 (Option.some Jvm.ClassFile.FieldType.int)) := rfl
set_option maxRecDepth 100000 in
theorem am_cw54 : lw_tbl[716]? = some (.code (am_y 54) prog_8_method_8_code 4 (Option.some Jvm.ClassFile.FieldType.int)) := rfl
set_option maxRecDepth 100000 in
theorem am_cw55 : lw_tbl[720]? = some (.code (am_y 55) prog_8_method_9_code 2 (Option.some Jvm.ClassFile.FieldType.int)) := rfl
set_option maxRecDepth 100000 in
theorem am_cw56 : lw_tbl[306]? = some (.code (am_y 56) prog_9_method_1_code 2 (Option.none : Option Jvm.ClassFile.FieldType)) := rfl
set_option maxRecDepth 100000 in
theorem am_cw57 : lw_tbl[367]? = some (.code (am_y 57) prog_9_method_2_code 2 (Option.some Jvm.ClassFile.FieldType.boolean)) := rfl
set_option maxRecDepth 100000 in
theorem am_cw58 : lw_tbl[382]? = some (.code (am_y 58) prog_9_method_3_code 2 (Option.some Jvm.ClassFile.FieldType.int)) := rfl
set_option maxRecDepth 100000 in
theorem am_cw59 : lw_tbl[386]? = some (.code (am_y 59) prog_9_method_4_code 3 (Option.none : Option Jvm.ClassFile.FieldType)) := rfl
set_option maxRecDepth 100000 in
theorem am_cw60 : lw_tbl[399]? = some (.code (am_y 60) prog_9_method_5_code 2 (Option.some Jvm.ClassFile.FieldType.int)) := rfl
set_option maxRecDepth 100000 in
theorem am_cw61 : lw_tbl[395]? = some (.code (am_y 61) prog_9_method_6_code 1 (Option.none : Option Jvm.ClassFile.FieldType)) := rfl
set_option maxRecDepth 100000 in
theorem am_cw62 : lw_tbl[402]? = some (.code (am_y 62) prog_9_method_7_code 1 (Option.some Jvm.ClassFile.FieldType.int)) := rfl
set_option maxRecDepth 100000 in
theorem am_cw63 : lw_tbl[498]? = some (.code (am_y 63) prog_9_method_8_code 1 (Option.some Jvm.ClassFile.FieldType.boolean)) := rfl
set_option maxRecDepth 100000 in
theorem am_cw64 : lw_tbl[406]? = some (.code (am_y 64) prog_9_method_9_code 5 (Option.some Jvm.ClassFile.FieldType.boolean)) := rfl
set_option maxRecDepth 100000 in
theorem am_cw65 : lw_tbl[410]? = some (.code (am_y 65) prog_9_method_10_code 2 (Option.some Jvm.ClassFile.FieldType.int)) := rfl
set_option maxRecDepth 100000 in
theorem am_cw66 : lw_tbl[423]? = some (.code (am_y 66) prog_9_method_11_code 3 (Option.some Jvm.ClassFile.FieldType.boolean)) := rfl
set_option maxRecDepth 100000 in
theorem am_cw67 : lw_tbl[413]? = some (.code (am_y 67) prog_9_method_12_code 1 (Option.some (Jvm.ClassFile.FieldType.object "java/lang/String"))) := rfl
set_option maxRecDepth 100000 in
theorem am_cw68 : lw_tbl[474]? = some (.code (am_y 68) prog_9_method_13_code 1 (Option.some Jvm.ClassFile.FieldType.int)) := rfl
set_option maxRecDepth 100000 in
theorem am_cw69 : lw_tbl[482]? = some (.code (am_y 69) prog_9_method_14_code 2 (Option.some Jvm.ClassFile.FieldType.int)) := rfl
set_option maxRecDepth 100000 in
theorem am_cw70 : lw_tbl[490]? = some (.code (am_y 70) prog_9_method_15_code 2 (Option.some Jvm.ClassFile.FieldType.int)) := rfl
set_option maxRecDepth 100000 in
theorem am_cw71 : lw_tbl[486]? = some (.code (am_y 71) prog_9_method_16_code 2 (Option.some Jvm.ClassFile.FieldType.int)) := rfl
set_option maxRecDepth 100000 in
theorem am_cw72 : lw_tbl[478]? = some (.code (am_y 72) prog_9_method_17_code 10 (Option.some Jvm.ClassFile.FieldType.boolean)) := rfl
set_option maxRecDepth 100000 in
theorem am_cw73 : lw_tbl[494]? = some (.code (am_y 73) prog_9_method_18_code 5 (Option.none : Option Jvm.ClassFile.FieldType)) := rfl
set_option maxRecDepth 100000 in
theorem am_cw74 : lw_tbl[507]? = some (.code (am_y 74) prog_9_method_19_code 2 (Option.none : Option Jvm.ClassFile.FieldType)) := rfl
set_option maxRecDepth 100000 in
theorem am_cw75 : lw_tbl[511]? = some (.code (am_y 75) prog_9_method_20_code 7 (Option.none : Option Jvm.ClassFile.FieldType)) := rfl
set_option maxRecDepth 100000 in
theorem am_cw76 : lw_tbl[56]? = some (.code (am_y 76) prog_1_method_1_code 1 (Option.none : Option Jvm.ClassFile.FieldType)) := rfl
set_option maxRecDepth 100000 in
theorem am_cw77 : lw_tbl[363]? = some (.code (am_y 77) prog_1_method_2_code 2 (Option.some Jvm.ClassFile.FieldType.int)) := rfl
set_option maxRecDepth 100000 in
theorem am_cw78 : lw_tbl[374]? = some (.code (am_y 78) prog_1_method_3_code 2 (Option.some Jvm.ClassFile.FieldType.int)) := rfl
set_option maxRecDepth 100000 in
theorem am_cw79 : lw_tbl[378]? = some (.code (am_y 79) prog_1_method_4_code 1 (Option.some Jvm.ClassFile.FieldType.int)) := rfl
set_option maxRecDepth 100000 in
theorem am_cw80 : lw_tbl[503]? = some (.code (am_y 80) prog_1_method_5_code 1 (Option.some Jvm.ClassFile.FieldType.int)) := rfl
set_option maxRecDepth 100000 in
theorem am_cw81 : lw_tbl[550]? = some (.code (am_y 81) prog_1_method_6_code 3 (Option.some Jvm.ClassFile.FieldType.int)) := rfl
set_option maxRecDepth 100000 in
theorem am_cw82 : lw_tbl[559]? = some (.code (am_y 82) prog_1_method_7_code 3 (Option.some Jvm.ClassFile.FieldType.int)) := rfl
set_option maxRecDepth 100000 in
theorem am_cw83 : lw_tbl[591]? = some (.code (am_y 83) prog_1_method_8_code 4 (Option.some Jvm.ClassFile.FieldType.int)) := rfl
set_option maxRecDepth 100000 in
theorem am_cw84 : lw_tbl[597]? = some (.code (am_y 84) prog_1_method_9_code 5 (Option.some Jvm.ClassFile.FieldType.int)) := rfl
set_option maxRecDepth 100000 in
theorem am_cw85 : lw_tbl[610]? = some (.code (am_y 85) prog_1_method_10_code 2 (Option.some Jvm.ClassFile.FieldType.int)) := rfl
set_option maxRecDepth 100000 in
theorem am_cw86 : lw_tbl[620]? = some (.code (am_y 86) prog_1_method_11_code 5 (Option.some Jvm.ClassFile.FieldType.int)) := rfl
set_option maxRecDepth 100000 in
theorem am_cw87 : lw_tbl[625]? = some (.code (am_y 87) prog_1_method_12_code 3 (Option.some Jvm.ClassFile.FieldType.int)) := rfl
set_option maxRecDepth 100000 in
theorem am_cw88 : lw_tbl[629]? = some (.code (am_y 88) prog_1_method_13_code 3 (Option.some Jvm.ClassFile.FieldType.int)) := rfl
set_option maxRecDepth 100000 in
theorem am_cw89 : lw_tbl[633]? = some (.code (am_y 89) prog_1_method_14_code 4 (Option.some Jvm.ClassFile.FieldType.int)) := rfl
set_option maxRecDepth 100000 in
theorem am_cw90 : lw_tbl[683]? = some (.code (am_y 90) prog_1_method_15_code 4 (Option.some Jvm.ClassFile.FieldType.int)) := rfl
set_option maxRecDepth 100000 in
theorem am_cw91 : lw_tbl[687]? = some (.code (am_y 91) prog_1_method_16_code 4 (Option.some Jvm.ClassFile.FieldType.int)) := rfl
set_option maxRecDepth 100000 in
theorem am_cw92 : lw_tbl[724]? = some (.code (am_y 92) prog_1_method_17_code 3 (Option.some Jvm.ClassFile.FieldType.int)) := rfl
set_option maxRecDepth 100000 in
theorem am_cw93 : lw_tbl[732]? = some (.code (am_y 93) prog_1_method_18_code 4 (Option.some Jvm.ClassFile.FieldType.int)) := rfl
set_option maxRecDepth 100000 in
theorem am_cw94 : lw_tbl[744]? = some (.code (am_y 94) prog_1_method_19_code 3 (Option.some Jvm.ClassFile.FieldType.int)) := rfl
set_option maxRecDepth 100000 in
theorem am_cw95 : lw_tbl[752]? = some (.code (am_y 95) prog_1_method_20_code 3 (Option.some Jvm.ClassFile.FieldType.int)) := rfl
set_option maxRecDepth 100000 in
theorem am_cw96 : lw_tbl[756]? = some (.code (am_y 96) prog_1_method_21_code 4 (Option.some Jvm.ClassFile.FieldType.int)) := rfl
set_option maxRecDepth 100000 in
theorem am_cw97 : lw_tbl[760]? = some (.code (am_y 97) prog_1_method_22_code 2 (Option.some Jvm.ClassFile.FieldType.int)) := rfl
set_option maxRecDepth 100000 in
theorem am_cw98 : lw_tbl[769]? = some (.code (am_y 98) prog_1_method_23_code 1 (Option.some Jvm.ClassFile.FieldType.int)) := rfl
set_option maxRecDepth 100000 in
theorem am_cw99 : lw_tbl[798]? = some (.code (am_y 99) prog_1_method_24_code 4 (Option.some Jvm.ClassFile.FieldType.int)) := rfl
set_option maxRecDepth 100000 in
theorem am_cw100 : lw_tbl[804]? = some (.code (am_y 100) prog_1_method_25_code 6 (Option.some Jvm.ClassFile.FieldType.int)) := rfl
set_option maxRecDepth 100000 in
theorem am_cw101 : lw_tbl[815]? = some (.code (am_y 101) prog_1_method_26_code 6 (Option.some Jvm.ClassFile.FieldType.int)) := rfl
set_option maxRecDepth 100000 in
theorem am_cw102 : lw_tbl[820]? = some (.code (am_y 102) prog_1_method_27_code 3 (Option.some Jvm.ClassFile.FieldType.int)) := rfl
set_option maxRecDepth 100000 in
theorem am_cw103 : lw_tbl[828]? = some (.code (am_y 103) prog_1_method_28_code 2 (Option.some Jvm.ClassFile.FieldType.int)) := rfl
set_option maxRecDepth 100000 in
theorem am_cw104 : lw_tbl[832]? = some (.code (am_y 104) prog_1_method_29_code 5 (Option.some Jvm.ClassFile.FieldType.int)) := rfl
set_option maxRecDepth 100000 in
theorem am_cw105 : lw_tbl[838]? = some (.code (am_y 105) prog_1_method_30_code 8 (Option.some Jvm.ClassFile.FieldType.int)) := rfl
set_option maxRecDepth 100000 in
theorem am_cw106 : lw_tbl[842]? = some (.code (am_y 106) prog_1_method_31_code 4 (Option.some Jvm.ClassFile.FieldType.int)) := rfl
set_option maxRecDepth 100000 in
theorem am_cw107 : lw_tbl[852]? = some (.code (am_y 107) prog_1_method_32_code 2 (Option.some Jvm.ClassFile.FieldType.int)) := rfl
set_option maxRecDepth 100000 in
theorem am_cw108 : lw_tbl[370]? = some (.code (am_y 108) prog_1_method_33_code 2 (Option.some Jvm.ClassFile.FieldType.boolean)) := rfl
set_option maxRecDepth 100000 in
theorem am_cw109 : lw_tbl[861]? = some (.code (am_y 109) prog_11_method_1_code 1 (Option.none : Option Jvm.ClassFile.FieldType)) := rfl
set_option maxRecDepth 100000 in
theorem am_cw110 : lw_tbl[1002]? = some (.code (am_y 110) prog_11_method_2_code 6 (Option.some Jvm.ClassFile.FieldType.boolean)) := rfl
set_option maxRecDepth 100000 in
theorem am_cw111 : lw_tbl[1087]? = some (.code (am_y 111) prog_11_method_3_code 2 (Option.some Jvm.ClassFile.FieldType.boolean)) := rfl
set_option maxRecDepth 100000 in
theorem am_cw112 : lw_tbl[1064]? = some (.code (am_y 112) prog_11_method_5_code 2 (Option.some Jvm.ClassFile.FieldType.boolean)) := rfl
set_option maxRecDepth 100000 in
theorem am_cw113 : lw_tbl[1094]? = some (.code (am_y 113) prog_11_method_6_code 1 (Option.some Jvm.ClassFile.FieldType.boolean)) := rfl
set_option maxRecDepth 100000 in
theorem am_cw114 : lw_tbl[870]? = some (.code (am_y 114) prog_11_method_7_code 6 (Option.none : Option Jvm.ClassFile.FieldType)) := rfl
set_option maxRecDepth 100000 in
theorem am_cw115 : lw_tbl[866]? = some (.code (am_y 115) prog_11_method_8_code 3 (Option.none : Option Jvm.ClassFile.FieldType)) := rfl
set_option maxRecDepth 100000 in
theorem am_cw116 : lw_tbl[998]? = some (.code (am_y 116) prog_11_method_9_code 2 (Option.some Jvm.ClassFile.FieldType.int)) := rfl
set_option maxRecDepth 100000 in
theorem am_cw117 : lw_tbl[1006]? = some (.code (am_y 117) prog_11_method_10_code 2 (Option.some Jvm.ClassFile.FieldType.int)) := rfl
set_option maxRecDepth 100000 in
theorem am_cw118 : lw_tbl[1021]? = some (.code (am_y 118) prog_11_method_11_code 1 (Option.some Jvm.ClassFile.FieldType.boolean)) := rfl
set_option maxRecDepth 100000 in
theorem am_cw119 : lw_tbl[1026]? = some (.code (am_y 119) prog_11_method_12_code 1 (Option.some Jvm.ClassFile.FieldType.boolean)) := rfl
set_option maxRecDepth 100000 in
theorem am_cw120 : lw_tbl[1018]? = some (.code (am_y 120) prog_11_method_13_code 1 (Option.none : Option Jvm.ClassFile.FieldType)) := rfl
set_option maxRecDepth 100000 in
theorem am_cw121 : lw_tbl[1036]? = some (.code (am_y 121) prog_11_method_14_code 4 (Option.some Jvm.ClassFile.FieldType.int)) := rfl
set_option maxRecDepth 100000 in
theorem am_cw122 : lw_tbl[1044]? = some (.code (am_y 122) prog_11_method_15_code 8 (Option.some Jvm.ClassFile.FieldType.boolean)) := rfl
set_option maxRecDepth 100000 in
theorem am_cw123 : lw_tbl[1048]? = some (.code (am_y 123) prog_11_method_16_code 4 (Option.some Jvm.ClassFile.FieldType.boolean)) := rfl
set_option maxRecDepth 100000 in
theorem am_cw124 : lw_tbl[1040]? = some (.code (am_y 124) prog_11_method_17_code 2 (Option.some Jvm.ClassFile.FieldType.boolean)) := rfl
set_option maxRecDepth 100000 in
theorem am_cw125 : lw_tbl[1052]? = some (.code (am_y 125) prog_11_method_18_code 3 (Option.none : Option Jvm.ClassFile.FieldType)) := rfl
set_option maxRecDepth 100000 in
theorem am_cw126 : lw_tbl[1032]? = some (.code (am_y 126) prog_11_method_19_code 3 (Option.some Jvm.ClassFile.FieldType.boolean)) := rfl
set_option maxRecDepth 100000 in
theorem am_cw127 : lw_tbl[1014]? = some (.code (am_y 127) prog_11_method_20_code 3 (Option.some Jvm.ClassFile.FieldType.boolean)) := rfl
set_option maxRecDepth 100000 in
theorem am_cw128 : lw_tbl[1010]? = some (.code (am_y 128) prog_11_method_21_code 1 (Option.some Jvm.ClassFile.FieldType.int)) := rfl
set_option maxRecDepth 100000 in
theorem am_cw129 : lw_tbl[1056]? = some (.code (am_y 129) prog_11_method_22_code 2 (Option.some Jvm.ClassFile.FieldType.int)) := rfl
set_option maxRecDepth 100000 in
theorem am_cw130 : lw_tbl[1099]? = some (.code (am_y 130) prog_11_method_23_code 4 (Option.some Jvm.ClassFile.FieldType.int)) := rfl
set_option maxRecDepth 100000 in
theorem am_cw131 : lw_tbl[1084]? = some (.code (am_y 131) prog_11_method_24_code 4 (Option.some Jvm.ClassFile.FieldType.int)) := rfl
set_option maxRecDepth 100000 in
theorem am_cw132 : lw_tbl[1080]? = some (.code (am_y 132) prog_11_method_25_code 6 (Option.none : Option Jvm.ClassFile.FieldType)) := rfl
set_option maxRecDepth 100000 in
theorem am_cw133 : lw_tbl[1076]? = some (.code (am_y 133) prog_11_method_26_code 5 (Option.none : Option Jvm.ClassFile.FieldType)) := rfl
set_option maxRecDepth 100000 in
theorem am_cw134 : lw_tbl[1072]? = some (.code (am_y 134) prog_11_method_27_code 2 (Option.none : Option Jvm.ClassFile.FieldType)) := rfl
set_option maxRecDepth 100000 in
theorem am_cw135 : lw_tbl[1158]? = some (.code (am_y 135) prog_11_method_28_code 5 (Option.some Jvm.ClassFile.FieldType.boolean)) := rfl
set_option maxRecDepth 100000 in
theorem am_cw136 : lw_tbl[1154]? = some (.code (am_y 136) prog_11_method_29_code 7 (Option.some Jvm.ClassFile.FieldType.boolean)) := rfl
set_option maxRecDepth 100000 in
theorem am_cw137 : lw_tbl[1150]? = some (.code (am_y 137) prog_11_method_30_code 4 (Option.some Jvm.ClassFile.FieldType.int)) := rfl
set_option maxRecDepth 100000 in
theorem am_cw138 : lw_tbl[1146]? = some (.code (am_y 138) prog_11_method_31_code 3 (Option.some Jvm.ClassFile.FieldType.boolean)) := rfl
set_option maxRecDepth 100000 in
theorem am_cw139 : lw_tbl[1186]? = some (.code (am_y 139) prog_11_method_32_code 5 (Option.some Jvm.ClassFile.FieldType.boolean)) := rfl
set_option maxRecDepth 100000 in
theorem am_cw140 : lw_tbl[1182]? = some (.code (am_y 140) prog_11_method_33_code 5 (Option.some Jvm.ClassFile.FieldType.int)) := rfl
set_option maxRecDepth 100000 in
theorem am_cw141 : lw_tbl[1178]? = some (.code (am_y 141) prog_11_method_34_code 5 (Option.none : Option Jvm.ClassFile.FieldType)) := rfl
set_option maxRecDepth 100000 in
theorem am_cw142 : lw_tbl[1174]? = some (.code (am_y 142) prog_11_method_35_code 2 (Option.none : Option Jvm.ClassFile.FieldType)) := rfl
set_option maxRecDepth 100000 in
theorem am_cw143 : lw_tbl[1060]? = some (.code (am_y 143) prog_11_method_36_code 3 (Option.some Jvm.ClassFile.FieldType.int)) := rfl
set_option maxRecDepth 100000 in
theorem am_cw144 : lw_tbl[1068]? = some (.code (am_y 144) prog_11_method_37_code 3 (Option.some Jvm.ClassFile.FieldType.int)) := rfl
set_option maxRecDepth 100000 in
theorem am_cw145 : lw_tbl[1091]? = some (.code (am_y 145) prog_11_method_38_code 3 (Option.some Jvm.ClassFile.FieldType.int)) := rfl
set_option maxRecDepth 100000 in
theorem am_cw146 : lw_tbl[1103]? = some (.code (am_y 146) prog_11_method_39_code 4 (Option.some Jvm.ClassFile.FieldType.int)) := rfl
set_option maxRecDepth 100000 in
theorem am_cw147 : lw_tbl[1111]? = some (.code (am_y 147) prog_11_method_40_code 5 (Option.some Jvm.ClassFile.FieldType.int)) := rfl
set_option maxRecDepth 100000 in
theorem am_cw148 : lw_tbl[1107]? = some (.code (am_y 148) prog_11_method_41_code 2 (Option.some Jvm.ClassFile.FieldType.int)) := rfl
set_option maxRecDepth 100000 in
theorem am_cw149 : lw_tbl[1198]? = some (.code (am_y 149) prog_11_method_42_code 5 (Option.some Jvm.ClassFile.FieldType.int)) := rfl
set_option maxRecDepth 100000 in
theorem am_cw150 : lw_tbl[1115]? = some (.code (am_y 150) prog_11_method_43_code 5 (Option.some Jvm.ClassFile.FieldType.int)) := rfl
set_option maxRecDepth 100000 in
theorem am_cw151 : lw_tbl[1120]? = some (.code (am_y 151) prog_11_method_44_code 3 (Option.some Jvm.ClassFile.FieldType.int)) := rfl
set_option maxRecDepth 100000 in
theorem am_cw152 : lw_tbl[1125]? = some (.code (am_y 152) prog_11_method_45_code 3 (Option.some Jvm.ClassFile.FieldType.int)) := rfl
set_option maxRecDepth 100000 in
theorem am_cw153 : lw_tbl[1134]? = some (.code (am_y 153) prog_11_method_46_code 3 (Option.some Jvm.ClassFile.FieldType.boolean)) := rfl
set_option maxRecDepth 100000 in
theorem am_cw154 : lw_tbl[1162]? = some (.code (am_y 154) prog_11_method_47_code 3 (Option.none : Option Jvm.ClassFile.FieldType)) := rfl
set_option maxRecDepth 100000 in
theorem am_cw155 : lw_tbl[1138]? = some (.code (am_y 155) prog_11_method_48_code 4 (Option.some Jvm.ClassFile.FieldType.boolean)) := rfl
set_option maxRecDepth 100000 in
theorem am_cw156 : lw_tbl[1206]? = some (.code (am_y 156) prog_11_method_49_code 5 (Option.some Jvm.ClassFile.FieldType.int)) := rfl
set_option maxRecDepth 100000 in
theorem am_cw157 : lw_tbl[1130]? = some (.code (am_y 157) prog_11_method_50_code 3 (Option.some Jvm.ClassFile.FieldType.int)) := rfl
set_option maxRecDepth 100000 in
theorem am_cw158 : lw_tbl[1166]? = some (.code (am_y 158) prog_11_method_51_code 3 (Option.some Jvm.ClassFile.FieldType.int)) := rfl
set_option maxRecDepth 100000 in
theorem am_cw159 : lw_tbl[1170]? = some (.code (am_y 159) prog_11_method_52_code 3 (Option.some Jvm.ClassFile.FieldType.int)) := rfl
set_option maxRecDepth 100000 in
theorem am_cw160 : lw_tbl[1190]? = some (.code (am_y 160) prog_11_method_53_code 2 (Option.some Jvm.ClassFile.FieldType.int)) := rfl
set_option maxRecDepth 100000 in
theorem am_cw161 : lw_tbl[1194]? = some (.code (am_y 161) prog_11_method_54_code 2 (Option.some Jvm.ClassFile.FieldType.int)) := rfl
set_option maxRecDepth 100000 in
theorem am_cw162 : lw_tbl[1202]? = some (.code (am_y 162) prog_11_method_55_code 2 (Option.some Jvm.ClassFile.FieldType.int)) := rfl
set_option maxRecDepth 100000 in
theorem am_cw163 : lw_tbl[1210]? = some (.code (am_y 163) prog_11_method_56_code 2 (Option.some Jvm.ClassFile.FieldType.int)) := rfl
set_option maxRecDepth 100000 in
theorem am_cw164 : lw_tbl[1214]? = some (.code (am_y 164) prog_11_method_57_code 3 (Option.some Jvm.ClassFile.FieldType.int)) := rfl
set_option maxRecDepth 100000 in
theorem am_cw165 : lw_tbl[1218]? = some (.code (am_y 165) prog_11_method_58_code 3 (Option.some Jvm.ClassFile.FieldType.int)) := rfl
set_option maxRecDepth 100000 in
theorem am_cw166 : lw_tbl[1226]? = some (.code (am_y 166) prog_11_method_59_code 6 (Option.some Jvm.ClassFile.FieldType.boolean)) := rfl
set_option maxRecDepth 100000 in
theorem am_cw167 : lw_tbl[1222]? = some (.code (am_y 167) prog_11_method_60_code 5 (Option.some Jvm.ClassFile.FieldType.int)) := rfl
set_option maxRecDepth 100000 in
theorem am_cw168 : lw_tbl[1234]? = some (.code (am_y 168) prog_11_method_61_code 3 (Option.some Jvm.ClassFile.FieldType.boolean)) := rfl
set_option maxRecDepth 100000 in
theorem am_cw169 : lw_tbl[1230]? = some (.code (am_y 169) prog_11_method_62_code 3 (Option.some Jvm.ClassFile.FieldType.int)) := rfl
set_option maxRecDepth 100000 in
theorem am_cw170 : lw_tbl[1238]? = some (.code (am_y 170) prog_11_method_63_code 4 (Option.some Jvm.ClassFile.FieldType.int)) := rfl
set_option maxRecDepth 100000 in
theorem am_cw171 : lw_tbl[1142]? = some (.code (am_y 171) prog_11_method_64_code 4 (Option.some Jvm.ClassFile.FieldType.int)) := rfl
set_option maxRecDepth 100000 in
theorem am_cw172 : lw_tbl[1242]? = some (.code (am_y 172) prog_11_method_65_code 7 (Option.some Jvm.ClassFile.FieldType.int)) := rfl
set_option maxRecDepth 100000 in
theorem am_cw173 : lw_tbl[1246]? = some (.code (am_y 173) prog_11_method_66_code 5 (Option.some Jvm.ClassFile.FieldType.int)) := rfl
set_option maxRecDepth 100000 in
theorem am_cw174 : lw_tbl[1250]? = some (.code (am_y 174) prog_11_method_67_code 2 (Option.some Jvm.ClassFile.FieldType.int)) := rfl
set_option maxRecDepth 100000 in
theorem am_cw175 : lw_tbl[1258]? = some (.code (am_y 175) prog_11_method_68_code 4 (Option.some Jvm.ClassFile.FieldType.boolean)) := rfl
set_option maxRecDepth 100000 in
theorem am_cw176 : lw_tbl[1254]? = some (.code (am_y 176) prog_11_method_69_code 5 (Option.some Jvm.ClassFile.FieldType.int)) := rfl
set_option maxRecDepth 100000 in
theorem am_cw177 : lw_tbl[1262]? = some (.code (am_y 177) prog_11_method_70_code 4 (Option.some Jvm.ClassFile.FieldType.int)) := rfl
set_option maxRecDepth 100000 in
theorem am_cw178 : lw_tbl[1266]? = some (.code (am_y 178) prog_11_method_71_code 4 (Option.some Jvm.ClassFile.FieldType.int)) := rfl
set_option maxRecDepth 100000 in
theorem am_cw179 : lw_tbl[1274]? = some (.code (am_y 179) prog_11_method_72_code 3 (Option.some Jvm.ClassFile.FieldType.int)) := rfl
set_option maxRecDepth 100000 in
theorem am_cw180 : lw_tbl[1270]? = some (.code (am_y 180) prog_11_method_73_code 2 (Option.some Jvm.ClassFile.FieldType.int)) := rfl
set_option maxRecDepth 100000 in
theorem am_cw181 : lw_tbl[808]? = some (.code (am_y 181) prog_12_method_49_code 1 (Option.some Jvm.ClassFile.FieldType.int)) := rfl
set_option maxRecDepth 100000 in
theorem am_cw182 : lw_tbl[740]? = some (.code (am_y 182) prog_13_method_65_code 2 (Option.some Jvm.ClassFile.FieldType.int)) := rfl
set_option maxRecDepth 100000 in
theorem am_cw183 : lw_tbl[427]? = some (.code (am_y 183) prog_14_method_54_code 1 (Option.some Jvm.ClassFile.FieldType.int)) := rfl
set_option maxRecDepth 100000 in
theorem am_cw184 : lw_tbl[437]? = some (.code (am_y 184) prog_14_method_56_code 2 (Option.some Jvm.ClassFile.FieldType.char)) := rfl
set_option maxRecDepth 100000 in
theorem am_cw185 : lw_tbl[431]? = some (.code (am_y 185) prog_14_method_152_code 1 (Option.some Jvm.ClassFile.FieldType.byte)) := rfl
set_option maxRecDepth 100000 in
theorem am_cw186 : lw_tbl[441]? = some (.code (am_y 186) prog_14_method_154_code 1 (Option.some Jvm.ClassFile.FieldType.boolean)) := rfl
set_option maxRecDepth 100000 in
theorem am_cw187 : lw_tbl[447]? = some (.code (am_y 187) prog_14_method_155_code 2 (Option.none : Option Jvm.ClassFile.FieldType)) := rfl
set_option maxRecDepth 100000 in
theorem am_cw188 : lw_tbl[444]? = some (.code (am_y 188) prog_15_method_2_code 2 (Option.some Jvm.ClassFile.FieldType.char)) := rfl
set_option maxRecDepth 100000 in
theorem am_cw189 : lw_tbl[452]? = some (.code (am_y 189) prog_17_method_11_code 3 (Option.some Jvm.ClassFile.FieldType.int)) := rfl
set_option maxRecDepth 100000 in
theorem am_inis : (List.range 16).all (fun i => am_wi (am_pi i) (.initialized (am_cn i))) = true := by decide +kernel
def am_cmP (o : Nat) (e : Nat × (Nat × Nat × Nat)) : Bool := match am_lk (am_pmT o) e.1 with
  | none => false
  | some (p1, p2, p3) => match e.2.1 with
    | 0 => am_wi p1 (.methodLink (am_cn o) e.1 (am_y e.2.2.1)) && am_wi p2 (.instanceMethod (am_y e.2.2.1)) && am_wi p3 (.selects (am_y e.2.2.1).cls (am_y e.2.2.1) (am_y e.2.2.1))
    | 1 => am_wi p1 (.methodLink (am_cn o) e.1 (am_y e.2.2.1)) && am_wi p2 (.static (am_y e.2.2.1))
    | 2 => am_wi p1 (.methodLink (am_cn o) e.1 (am_y e.2.2.1)) && am_wi p2 (.instanceMethod (am_y e.2.2.1)) && decide ((am_y e.2.2.1).name = "<init>") && decide (am_rt e.2.2.1 = none)
    | 3 => am_wi p1 (.methodLinkNest (am_cn o) e.1 (am_y e.2.2.1) "MixedRules") && am_wi p2 (.static (am_y e.2.2.1))
    | 4 => am_wi p1 (.methodLinkNest (am_cn o) e.1 (am_y e.2.2.1) "MixedRules") && am_wi p2 (.instanceMethod (am_y e.2.2.1)) && decide ((am_y e.2.2.1).name = "<init>") && decide (am_rt e.2.2.1 = none)
    | 5 => am_wi p1 (.methodLink (am_cn o) e.1 Lib.objectInit) && am_wi p2 (.instanceMethod Lib.objectInit) && am_wi p3 (.code Lib.objectInit ⟨#[0xb1]⟩ 1 none)
    | _ => false
def am_cmQ (e : Nat × (Nat × Nat × Nat)) : Bool := match e.2.1 with
  | 5 => true
  | kd => Nat.blt e.2.2.1 191 && decide ((parseMethodDescriptor (am_y e.2.2.1).desc).map (fun d => d.parameters.length) = some (match kd with | 1 => e.2.2.2 | 3 => e.2.2.2 | _ => e.2.2.2 - 1)) && (match kd with | 1 => true | 3 => true | _ => Nat.ble 1 e.2.2.2)
set_option maxRecDepth 100000 in
theorem am_cm_ok0 : (am_cmT 0).all (fun e => am_cmP 0 e && am_cmQ e) = true := by decide +kernel
set_option maxRecDepth 100000 in
theorem am_cm_ok1 : (am_cmT 1).all (fun e => am_cmP 1 e && am_cmQ e) = true := by decide +kernel
set_option maxRecDepth 100000 in
theorem am_cm_ok2 : (am_cmT 2).all (fun e => am_cmP 2 e && am_cmQ e) = true := by decide +kernel
set_option maxRecDepth 100000 in
theorem am_cm_ok3 : (am_cmT 3).all (fun e => am_cmP 3 e && am_cmQ e) = true := by decide +kernel
set_option maxRecDepth 100000 in
theorem am_cm_ok4 : (am_cmT 4).all (fun e => am_cmP 4 e && am_cmQ e) = true := by decide +kernel
set_option maxRecDepth 100000 in
theorem am_cm_ok5 : (am_cmT 5).all (fun e => am_cmP 5 e && am_cmQ e) = true := by decide +kernel
set_option maxRecDepth 100000 in
theorem am_cm_ok6 : (am_cmT 6).all (fun e => am_cmP 6 e && am_cmQ e) = true := by decide +kernel
set_option maxRecDepth 100000 in
theorem am_cm_ok7 : (am_cmT 7).all (fun e => am_cmP 7 e && am_cmQ e) = true := by decide +kernel
set_option maxRecDepth 100000 in
theorem am_cm_ok8 : (am_cmT 8).all (fun e => am_cmP 8 e && am_cmQ e) = true := by decide +kernel
set_option maxRecDepth 100000 in
theorem am_cm_ok9 : (am_cmT 9).all (fun e => am_cmP 9 e && am_cmQ e) = true := by decide +kernel
set_option maxRecDepth 100000 in
theorem am_cm_ok12 : (am_cmT 12).all (fun e => am_cmP 12 e && am_cmQ e) = true := by decide +kernel
set_option maxRecDepth 100000 in
theorem am_cm_ok13 : (am_cmT 13).all (fun e => am_cmP 13 e && am_cmQ e) = true := by decide +kernel
set_option maxRecDepth 100000 in
theorem am_cm_ok14 : (am_cmT 14).all (fun e => am_cmP 14 e && am_cmQ e) = true := by decide +kernel
def am_cfP (o : Nat) (e : Nat × (Nat × Nat)) (n : String × String) : Bool := match am_lk (am_pfT o) e.1 with
  | none => false
  | some p => am_wi p (.fieldLink (am_cn o) e.1 (am_cn e.2.1) n.1 n.2)
def am_cl0 : List vw_C := [(RX0, TX0, 11), (RX1, TX1, 3), (RX2, TX2, 8), (RX3, TX3, 7), (RX4, TX4, 5), (RX5, TX5, 4), (RX6, TX6, 8), (RX7, TX7, 11), (RX8, TX8, 5), (RX9, TX9, 41)]
def am_fn (ci f : Nat) : String × String := match ci with
  | 0 => ((TX0 f).2.1, (TX0 f).2.2.1)
  | 1 => ((TX1 f).2.1, (TX1 f).2.2.1)
  | 2 => ((TX2 f).2.1, (TX2 f).2.2.1)
  | 3 => ((TX3 f).2.1, (TX3 f).2.2.1)
  | 4 => ((TX4 f).2.1, (TX4 f).2.2.1)
  | 5 => ((TX5 f).2.1, (TX5 f).2.2.1)
  | 6 => ((TX6 f).2.1, (TX6 f).2.2.1)
  | 7 => ((TX7 f).2.1, (TX7 f).2.2.1)
  | 8 => ((TX8 f).2.1, (TX8 f).2.2.1)
  | 9 => ((TX9 f).2.1, (TX9 f).2.2.1)
  | _ => match f with
    | 0 => ("value", "[B")
    | _ => ("coder", "B")
def am_nf (k : Nat) : Nat := match k with
  | 0 => 11
  | 1 => 3
  | 2 => 8
  | 3 => 7
  | 4 => 5
  | 5 => 4
  | 6 => 8
  | 7 => 11
  | 8 => 5
  | 9 => 41
  | 12 => 2
  | _ => 0
set_option maxRecDepth 100000 in
theorem am_cf_ok0 : (am_cfT 0).all (fun e => am_cfP 0 e (am_fn e.2.1 e.2.2) && Nat.blt e.2.2 (am_nf e.2.1)) = true := by decide +kernel
set_option maxRecDepth 100000 in
theorem am_cf_ok1 : (am_cfT 1).all (fun e => am_cfP 1 e (am_fn e.2.1 e.2.2) && Nat.blt e.2.2 (am_nf e.2.1)) = true := by decide +kernel
set_option maxRecDepth 100000 in
theorem am_cf_ok2 : (am_cfT 2).all (fun e => am_cfP 2 e (am_fn e.2.1 e.2.2) && Nat.blt e.2.2 (am_nf e.2.1)) = true := by decide +kernel
set_option maxRecDepth 100000 in
theorem am_cf_ok3 : (am_cfT 3).all (fun e => am_cfP 3 e (am_fn e.2.1 e.2.2) && Nat.blt e.2.2 (am_nf e.2.1)) = true := by decide +kernel
set_option maxRecDepth 100000 in
theorem am_cf_ok4 : (am_cfT 4).all (fun e => am_cfP 4 e (am_fn e.2.1 e.2.2) && Nat.blt e.2.2 (am_nf e.2.1)) = true := by decide +kernel
set_option maxRecDepth 100000 in
theorem am_cf_ok5 : (am_cfT 5).all (fun e => am_cfP 5 e (am_fn e.2.1 e.2.2) && Nat.blt e.2.2 (am_nf e.2.1)) = true := by decide +kernel
set_option maxRecDepth 100000 in
theorem am_cf_ok6 : (am_cfT 6).all (fun e => am_cfP 6 e (am_fn e.2.1 e.2.2) && Nat.blt e.2.2 (am_nf e.2.1)) = true := by decide +kernel
set_option maxRecDepth 100000 in
theorem am_cf_ok7 : (am_cfT 7).all (fun e => am_cfP 7 e (am_fn e.2.1 e.2.2) && Nat.blt e.2.2 (am_nf e.2.1)) = true := by decide +kernel
set_option maxRecDepth 100000 in
theorem am_cf_ok8 : (am_cfT 8).all (fun e => am_cfP 8 e (am_fn e.2.1 e.2.2) && Nat.blt e.2.2 (am_nf e.2.1)) = true := by decide +kernel
set_option maxRecDepth 100000 in
theorem am_cf_ok9 : (am_cfT 9).all (fun e => am_cfP 9 e (am_fn e.2.1 e.2.2) && Nat.blt e.2.2 (am_nf e.2.1)) = true := by decide +kernel
set_option maxRecDepth 100000 in
theorem am_cf_ok12 : (am_cfT 12).all (fun e => am_cfP 12 e (am_fn e.2.1 e.2.2) && Nat.blt e.2.2 (am_nf e.2.1)) = true := by decide +kernel
set_option maxRecDepth 100000 in
theorem am_cc_ok1 : (am_ccT 1).all (fun e => match am_lk (am_pcT 1) e.1 with | none => false | some p => am_wi p (.classLink (am_cn 1) e.1 (am_cn e.2))) = true := by decide +kernel
set_option maxRecDepth 100000 in
theorem am_cc_ok3 : (am_ccT 3).all (fun e => match am_lk (am_pcT 3) e.1 with | none => false | some p => am_wi p (.classLink (am_cn 3) e.1 (am_cn e.2))) = true := by decide +kernel
set_option maxRecDepth 100000 in
theorem am_cc_ok4 : (am_ccT 4).all (fun e => match am_lk (am_pcT 4) e.1 with | none => false | some p => am_wi p (.classLink (am_cn 4) e.1 (am_cn e.2))) = true := by decide +kernel
set_option maxRecDepth 100000 in
theorem am_cc_ok8 : (am_ccT 8).all (fun e => match am_lk (am_pcT 8) e.1 with | none => false | some p => am_wi p (.classLink (am_cn 8) e.1 (am_cn e.2))) = true := by decide +kernel
set_option maxRecDepth 100000 in
theorem am_cc_ok14 : (am_ccT 14).all (fun e => match am_lk (am_pcT 14) e.1 with | none => false | some p => am_wi p (.classLink (am_cn 14) e.1 (am_cn e.2))) = true := by decide +kernel
def am_pyT (k : Nat) : List Nat := match k with
  | 0 => [112, 114, 116, 118, 120, 122, 124, 126, 128, 130, 132]
  | 1 => [192, 194, 196]
  | 2 => [258, 260, 262, 264, 266, 268, 270, 272]
  | 3 => [287, 289, 291, 293, 295, 297, 299]
  | 4 => [147, 149, 151, 153, 155]
  | 5 => [179, 181, 183, 185]
  | 6 => [213, 215, 217, 219, 221, 223, 225, 227]
  | 7 => [321, 323, 325, 327, 329, 331, 333, 335, 337, 339, 341]
  | 8 => [349, 351, 353, 355, 357]
  | 9 => [912, 914, 916, 918, 920, 922, 924, 926, 928, 930, 932, 934, 936, 938, 940, 942, 944, 946, 948, 950, 952, 954, 956, 958, 960, 962, 964, 966, 968, 970, 972, 974, 976, 978, 980, 982, 984, 986, 988, 990, 992]
  | _ => []
set_option maxRecDepth 100000 in
theorem am_py0 : (List.range 11).all (fun k => am_wi ((am_pyT 0).getD k 0) (u_lay RX0 TX0 k) && goodWord (u_lay RX0 TX0 k)) = true := by decide +kernel
set_option maxRecDepth 100000 in
theorem am_fl0 : (List.range 11).all (fun k => decide (am_ff 0 k = (TX0 k).2.2.2 ∧ (TX0 k).1 = am_cn 0)) = true := by decide +kernel
set_option maxRecDepth 100000 in
theorem am_py1 : (List.range 3).all (fun k => am_wi ((am_pyT 1).getD k 0) (u_lay RX1 TX1 k) && goodWord (u_lay RX1 TX1 k)) = true := by decide +kernel
set_option maxRecDepth 100000 in
theorem am_fl1 : (List.range 3).all (fun k => decide (am_ff 1 k = (TX1 k).2.2.2 ∧ (TX1 k).1 = am_cn 1)) = true := by decide +kernel
set_option maxRecDepth 100000 in
theorem am_py2 : (List.range 8).all (fun k => am_wi ((am_pyT 2).getD k 0) (u_lay RX2 TX2 k) && goodWord (u_lay RX2 TX2 k)) = true := by decide +kernel
set_option maxRecDepth 100000 in
theorem am_fl2 : (List.range 8).all (fun k => decide (am_ff 2 k = (TX2 k).2.2.2 ∧ (TX2 k).1 = am_cn 2)) = true := by decide +kernel
set_option maxRecDepth 100000 in
theorem am_py3 : (List.range 7).all (fun k => am_wi ((am_pyT 3).getD k 0) (u_lay RX3 TX3 k) && goodWord (u_lay RX3 TX3 k)) = true := by decide +kernel
set_option maxRecDepth 100000 in
theorem am_fl3 : (List.range 7).all (fun k => decide (am_ff 3 k = (TX3 k).2.2.2 ∧ (TX3 k).1 = am_cn 3)) = true := by decide +kernel
set_option maxRecDepth 100000 in
theorem am_py4 : (List.range 5).all (fun k => am_wi ((am_pyT 4).getD k 0) (u_lay RX4 TX4 k) && goodWord (u_lay RX4 TX4 k)) = true := by decide +kernel
set_option maxRecDepth 100000 in
theorem am_fl4 : (List.range 5).all (fun k => decide (am_ff 4 k = (TX4 k).2.2.2 ∧ (TX4 k).1 = am_cn 4)) = true := by decide +kernel
set_option maxRecDepth 100000 in
theorem am_py5 : (List.range 4).all (fun k => am_wi ((am_pyT 5).getD k 0) (u_lay RX5 TX5 k) && goodWord (u_lay RX5 TX5 k)) = true := by decide +kernel
set_option maxRecDepth 100000 in
theorem am_fl5 : (List.range 4).all (fun k => decide (am_ff 5 k = (TX5 k).2.2.2 ∧ (TX5 k).1 = am_cn 5)) = true := by decide +kernel
set_option maxRecDepth 100000 in
theorem am_py6 : (List.range 8).all (fun k => am_wi ((am_pyT 6).getD k 0) (u_lay RX6 TX6 k) && goodWord (u_lay RX6 TX6 k)) = true := by decide +kernel
set_option maxRecDepth 100000 in
theorem am_fl6 : (List.range 8).all (fun k => decide (am_ff 6 k = (TX6 k).2.2.2 ∧ (TX6 k).1 = am_cn 6)) = true := by decide +kernel
set_option maxRecDepth 100000 in
theorem am_py7 : (List.range 11).all (fun k => am_wi ((am_pyT 7).getD k 0) (u_lay RX7 TX7 k) && goodWord (u_lay RX7 TX7 k)) = true := by decide +kernel
set_option maxRecDepth 100000 in
theorem am_fl7 : (List.range 11).all (fun k => decide (am_ff 7 k = (TX7 k).2.2.2 ∧ (TX7 k).1 = am_cn 7)) = true := by decide +kernel
set_option maxRecDepth 100000 in
theorem am_py8 : (List.range 5).all (fun k => am_wi ((am_pyT 8).getD k 0) (u_lay RX8 TX8 k) && goodWord (u_lay RX8 TX8 k)) = true := by decide +kernel
set_option maxRecDepth 100000 in
theorem am_fl8 : (List.range 5).all (fun k => decide (am_ff 8 k = (TX8 k).2.2.2 ∧ (TX8 k).1 = am_cn 8)) = true := by decide +kernel
set_option maxRecDepth 100000 in
theorem am_py9 : (List.range 41).all (fun k => am_wi ((am_pyT 9).getD k 0) (u_lay RX9 TX9 k) && goodWord (u_lay RX9 TX9 k)) = true := by decide +kernel
set_option maxRecDepth 100000 in
theorem am_fl9 : (List.range 41).all (fun k => decide (am_ff 9 k = (TX9 k).2.2.2 ∧ (TX9 k).1 = am_cn 9)) = true := by decide +kernel
def am_pn (k : Nat) : Nat := match k with
  | 0 => 68
  | 1 => 159
  | 2 => 239
  | 3 => 232
  | 4 => 61
  | 5 => 165
  | 6 => 200
  | 7 => 303
  | 8 => 53
  | 9 => 858
  | _ => 0
set_option maxRecDepth 100000 in
theorem am_insts : (List.range 10).all (fun i => am_wi (am_pn i) (.instantiable (am_cn i) (am_nf i))) = true := by decide +kernel
set_option maxRecDepth 100000 in
theorem am_ck_ok7 : (am_ckT 7).all (fun e => match e.2 with | .inr _ => true | .inl x => match am_lk (am_pkT 7) e.1 with | none => false | some p => am_wi p (.constant (am_cn 7) e.1 x)) = true := by decide +kernel
set_option maxRecDepth 100000 in
theorem am_ck_ok10 : (am_ckT 10).all (fun e => match e.2 with | .inr _ => true | .inl x => match am_lk (am_pkT 10) e.1 with | none => false | some p => am_wi p (.constant (am_cn 10) e.1 x)) = true := by decide +kernel
set_option maxRecDepth 100000 in
theorem am_cl_ok9 : (am_clT 9).all (fun e => match am_lk (am_plT 9) e.1 with | none => false | some p => am_wi p (.constantLong (am_cn 9) e.1 e.2)) = true := by decide +kernel
theorem am_gs8 : am_wi 833 (.fieldLink (am_cn 8) 210 "MixedRules" "ORDERS" "[I") = true := by decide +kernel
theorem am_gs12_38 : am_wi 432 (.fieldLink (am_cn 12) 38 "java/lang/String" "COMPACT_STRINGS" "Z") = true := by decide +kernel
theorem am_gs12_1053 : am_wi 448 (.fieldLink (am_cn 12) 1053 "jdk/internal/util/Preconditions" "SIOOBE_FORMATTER" "Ljava/util/function/BiFunction;") = true := by decide +kernel
def am_len (i : Instr) : Nat := match i with
  | .tableswitch _ _ _ _ => 0
  | .bipush _ => 2
  | .sipush _ => 3
  | .iload _ => 2
  | .aload _ => 2
  | .lload _ => 2
  | .istore _ => 2
  | .astore _ => 2
  | .iinc _ _ => 3
  | .ldc _ => 2
  | .ldc_w _ => 3
  | .ldc2_w _ => 3
  | .getstatic _ => 3
  | .goto _ => 3
  | .ifCond _ _ => 3
  | .if_icmp _ _ => 3
  | .ifnull _ => 3
  | .ifnonnull _ => 3
  | .getfield _ => 3
  | .putfield _ => 3
  | .new _ => 3
  | .newarray _ => 2
  | .anewarray _ => 3
  | .invokevirtual _ => 3
  | .invokestatic _ => 3
  | .invokespecial _ => 3
  | _ => 1
def am_lk1 (i : Instr) (n : Nat) : Bool := match am_len i with
  | 0 => true
  | k => Nat.beq k n
set_option maxRecDepth 100000 in
theorem am_lens0 : (List.range 191).all (fun m => (am_tb m).all (fun r => r.all (fun o => match o with
  | some x => am_lk1 x.1 x.2
  | none => true))) = true := by decide +kernel
theorem am_lens {m pc : Nat} {i : Instr} {n : Nat} (hm : m < 191) (h : am_at m pc = some (i, n)) : am_lk1 i n = true := by
  have h0 := List.all_eq_true.mp am_lens0 m (List.mem_range.mpr hm)
  unfold am_at at h
  rw [List.getD_eq_getElem?_getD, List.getD_eq_getElem?_getD] at h
  cases h1 : (am_tb m)[pc / 16]? with
  | none => rw [h1] at h; simp at h
  | some r =>
    rw [h1] at h
    simp only [Option.getD_some] at h
    cases h2 : r[pc % 16]? with
    | none => rw [h2] at h; simp at h
    | some o =>
      rw [h2] at h
      simp only [Option.getD_some] at h
      subst h
      have h3 := List.all_eq_true.mp h0 r (List.mem_of_getElem? h1)
      exact List.all_eq_true.mp h3 _ (List.mem_of_getElem? h2)
set_option maxRecDepth 100000 in
theorem am_iis : (List.range 191).all (fun m => !(am_ii m) || decide ((am_y m).name = "<init>")) = true := by decide +kernel
set_option maxRecDepth 100000 in
theorem am_nolaw : (List.range 16).all (fun o => (am_cmT o).all (fun e => Nat.blt e.2.2.1 190)) = true := by decide +kernel
def am_jk (pc : Nat) (i : Instr) : Bool := match i with
  | .ifCond _ o => decide (0 ≤ (pc : Int) + o)
  | .if_icmp _ o => decide (0 ≤ (pc : Int) + o)
  | .ifnull o => decide (0 ≤ (pc : Int) + o)
  | .ifnonnull o => decide (0 ≤ (pc : Int) + o)
  | .tableswitch d _ _ offs => decide (0 ≤ (pc : Int) + d) && offs.toList.all (fun o => decide (0 ≤ (pc : Int) + o))
  | _ => true
set_option maxRecDepth 100000 in
theorem am_jks0 : (List.range 191).all (fun m => (List.range (16 * (am_tb m).length)).all (fun pc => match am_at m pc with
  | some x => am_jk pc x.1
  | none => true)) = true := by decide +kernel
theorem am_jks {m pc : Nat} {i : Instr} {n : Nat} (hm : m < 191) (h : am_at m pc = some (i, n)) : am_jk pc i = true := by
  have h0 := List.all_eq_true.mp am_jks0 m (List.mem_range.mpr hm)
  by_cases hp : pc < 16 * (am_tb m).length
  · have h1 := List.all_eq_true.mp h0 pc (List.mem_range.mpr hp)
    simp only [h] at h1
    exact h1
  · exfalso
    have h2 : (am_tb m).length ≤ pc / 16 := by omega
    unfold am_at at h
    rw [List.getD_eq_getElem?_getD, List.getD_eq_getElem?_getD, List.getElem?_eq_none h2] at h
    simp at h
set_option maxRecDepth 100000 in
theorem am_yok0 : (List.range 191).all (fun c => decide ((am_y c).cls = am_cn (am_ow c) ∧ (am_y c).cls ≠ "java/lang/invoke/MethodHandle" ∧ (am_y c).cls ≠ "java/lang/invoke/VarHandle" ∧ am_ml c ≤ 19 ∧ plainFor (am_y c) = true ∧ am_ow c < 16)) = true := by decide +kernel
theorem am_yok {c : Nat} (h : c < 191) : (am_y c).cls = am_cn (am_ow c) ∧ (am_y c).cls ≠ "java/lang/invoke/MethodHandle" ∧ (am_y c).cls ≠ "java/lang/invoke/VarHandle" ∧ am_ml c ≤ 19 ∧ plainFor (am_y c) = true ∧ am_ow c < 16 := of_decide_eq_true (List.all_eq_true.mp am_yok0 c (List.mem_range.mpr h))
theorem am_cwF {c : Nat} (h : c < 190) : Cond.code (am_y c) (am_by c) (am_ml c) (am_rt c) ∈ lw_tbl := by
  match c, h with
  | 0, _ => exact List.mem_of_getElem? am_cw0
  | 1, _ => exact List.mem_of_getElem? am_cw1
  | 2, _ => exact List.mem_of_getElem? am_cw2
  | 3, _ => exact List.mem_of_getElem? am_cw3
  | 4, _ => exact List.mem_of_getElem? am_cw4
  | 5, _ => exact List.mem_of_getElem? am_cw5
  | 6, _ => exact List.mem_of_getElem? am_cw6
  | 7, _ => exact List.mem_of_getElem? am_cw7
  | 8, _ => exact List.mem_of_getElem? am_cw8
  | 9, _ => exact List.mem_of_getElem? am_cw9
  | 10, _ => exact List.mem_of_getElem? am_cw10
  | 11, _ => exact List.mem_of_getElem? am_cw11
  | 12, _ => exact List.mem_of_getElem? am_cw12
  | 13, _ => exact List.mem_of_getElem? am_cw13
  | 14, _ => exact List.mem_of_getElem? am_cw14
  | 15, _ => exact List.mem_of_getElem? am_cw15
  | 16, _ => exact List.mem_of_getElem? am_cw16
  | 17, _ => exact List.mem_of_getElem? am_cw17
  | 18, _ => exact List.mem_of_getElem? am_cw18
  | 19, _ => exact List.mem_of_getElem? am_cw19
  | 20, _ => exact List.mem_of_getElem? am_cw20
  | 21, _ => exact List.mem_of_getElem? am_cw21
  | 22, _ => exact List.mem_of_getElem? am_cw22
  | 23, _ => exact List.mem_of_getElem? am_cw23
  | 24, _ => exact List.mem_of_getElem? am_cw24
  | 25, _ => exact List.mem_of_getElem? am_cw25
  | 26, _ => exact List.mem_of_getElem? am_cw26
  | 27, _ => exact List.mem_of_getElem? am_cw27
  | 28, _ => exact List.mem_of_getElem? am_cw28
  | 29, _ => exact List.mem_of_getElem? am_cw29
  | 30, _ => exact List.mem_of_getElem? am_cw30
  | 31, _ => exact List.mem_of_getElem? am_cw31
  | 32, _ => exact List.mem_of_getElem? am_cw32
  | 33, _ => exact List.mem_of_getElem? am_cw33
  | 34, _ => exact List.mem_of_getElem? am_cw34
  | 35, _ => exact List.mem_of_getElem? am_cw35
  | 36, _ => exact List.mem_of_getElem? am_cw36
  | 37, _ => exact List.mem_of_getElem? am_cw37
  | 38, _ => exact List.mem_of_getElem? am_cw38
  | 39, _ => exact List.mem_of_getElem? am_cw39
  | 40, _ => exact List.mem_of_getElem? am_cw40
  | 41, _ => exact List.mem_of_getElem? am_cw41
  | 42, _ => exact List.mem_of_getElem? am_cw42
  | 43, _ => exact List.mem_of_getElem? am_cw43
  | 44, _ => exact List.mem_of_getElem? am_cw44
  | 45, _ => exact List.mem_of_getElem? am_cw45
  | 46, _ => exact List.mem_of_getElem? am_cw46
  | 47, _ => exact List.mem_of_getElem? am_cw47
  | 48, _ => exact List.mem_of_getElem? am_cw48
  | 49, _ => exact List.mem_of_getElem? am_cw49
  | 50, _ => exact List.mem_of_getElem? am_cw50
  | 51, _ => exact List.mem_of_getElem? am_cw51
  | 52, _ => exact List.mem_of_getElem? am_cw52
  | 53, _ => exact List.mem_of_getElem? am_cw53
  | 54, _ => exact List.mem_of_getElem? am_cw54
  | 55, _ => exact List.mem_of_getElem? am_cw55
  | 56, _ => exact List.mem_of_getElem? am_cw56
  | 57, _ => exact List.mem_of_getElem? am_cw57
  | 58, _ => exact List.mem_of_getElem? am_cw58
  | 59, _ => exact List.mem_of_getElem? am_cw59
  | 60, _ => exact List.mem_of_getElem? am_cw60
  | 61, _ => exact List.mem_of_getElem? am_cw61
  | 62, _ => exact List.mem_of_getElem? am_cw62
  | 63, _ => exact List.mem_of_getElem? am_cw63
  | 64, _ => exact List.mem_of_getElem? am_cw64
  | 65, _ => exact List.mem_of_getElem? am_cw65
  | 66, _ => exact List.mem_of_getElem? am_cw66
  | 67, _ => exact List.mem_of_getElem? am_cw67
  | 68, _ => exact List.mem_of_getElem? am_cw68
  | 69, _ => exact List.mem_of_getElem? am_cw69
  | 70, _ => exact List.mem_of_getElem? am_cw70
  | 71, _ => exact List.mem_of_getElem? am_cw71
  | 72, _ => exact List.mem_of_getElem? am_cw72
  | 73, _ => exact List.mem_of_getElem? am_cw73
  | 74, _ => exact List.mem_of_getElem? am_cw74
  | 75, _ => exact List.mem_of_getElem? am_cw75
  | 76, _ => exact List.mem_of_getElem? am_cw76
  | 77, _ => exact List.mem_of_getElem? am_cw77
  | 78, _ => exact List.mem_of_getElem? am_cw78
  | 79, _ => exact List.mem_of_getElem? am_cw79
  | 80, _ => exact List.mem_of_getElem? am_cw80
  | 81, _ => exact List.mem_of_getElem? am_cw81
  | 82, _ => exact List.mem_of_getElem? am_cw82
  | 83, _ => exact List.mem_of_getElem? am_cw83
  | 84, _ => exact List.mem_of_getElem? am_cw84
  | 85, _ => exact List.mem_of_getElem? am_cw85
  | 86, _ => exact List.mem_of_getElem? am_cw86
  | 87, _ => exact List.mem_of_getElem? am_cw87
  | 88, _ => exact List.mem_of_getElem? am_cw88
  | 89, _ => exact List.mem_of_getElem? am_cw89
  | 90, _ => exact List.mem_of_getElem? am_cw90
  | 91, _ => exact List.mem_of_getElem? am_cw91
  | 92, _ => exact List.mem_of_getElem? am_cw92
  | 93, _ => exact List.mem_of_getElem? am_cw93
  | 94, _ => exact List.mem_of_getElem? am_cw94
  | 95, _ => exact List.mem_of_getElem? am_cw95
  | 96, _ => exact List.mem_of_getElem? am_cw96
  | 97, _ => exact List.mem_of_getElem? am_cw97
  | 98, _ => exact List.mem_of_getElem? am_cw98
  | 99, _ => exact List.mem_of_getElem? am_cw99
  | 100, _ => exact List.mem_of_getElem? am_cw100
  | 101, _ => exact List.mem_of_getElem? am_cw101
  | 102, _ => exact List.mem_of_getElem? am_cw102
  | 103, _ => exact List.mem_of_getElem? am_cw103
  | 104, _ => exact List.mem_of_getElem? am_cw104
  | 105, _ => exact List.mem_of_getElem? am_cw105
  | 106, _ => exact List.mem_of_getElem? am_cw106
  | 107, _ => exact List.mem_of_getElem? am_cw107
  | 108, _ => exact List.mem_of_getElem? am_cw108
  | 109, _ => exact List.mem_of_getElem? am_cw109
  | 110, _ => exact List.mem_of_getElem? am_cw110
  | 111, _ => exact List.mem_of_getElem? am_cw111
  | 112, _ => exact List.mem_of_getElem? am_cw112
  | 113, _ => exact List.mem_of_getElem? am_cw113
  | 114, _ => exact List.mem_of_getElem? am_cw114
  | 115, _ => exact List.mem_of_getElem? am_cw115
  | 116, _ => exact List.mem_of_getElem? am_cw116
  | 117, _ => exact List.mem_of_getElem? am_cw117
  | 118, _ => exact List.mem_of_getElem? am_cw118
  | 119, _ => exact List.mem_of_getElem? am_cw119
  | 120, _ => exact List.mem_of_getElem? am_cw120
  | 121, _ => exact List.mem_of_getElem? am_cw121
  | 122, _ => exact List.mem_of_getElem? am_cw122
  | 123, _ => exact List.mem_of_getElem? am_cw123
  | 124, _ => exact List.mem_of_getElem? am_cw124
  | 125, _ => exact List.mem_of_getElem? am_cw125
  | 126, _ => exact List.mem_of_getElem? am_cw126
  | 127, _ => exact List.mem_of_getElem? am_cw127
  | 128, _ => exact List.mem_of_getElem? am_cw128
  | 129, _ => exact List.mem_of_getElem? am_cw129
  | 130, _ => exact List.mem_of_getElem? am_cw130
  | 131, _ => exact List.mem_of_getElem? am_cw131
  | 132, _ => exact List.mem_of_getElem? am_cw132
  | 133, _ => exact List.mem_of_getElem? am_cw133
  | 134, _ => exact List.mem_of_getElem? am_cw134
  | 135, _ => exact List.mem_of_getElem? am_cw135
  | 136, _ => exact List.mem_of_getElem? am_cw136
  | 137, _ => exact List.mem_of_getElem? am_cw137
  | 138, _ => exact List.mem_of_getElem? am_cw138
  | 139, _ => exact List.mem_of_getElem? am_cw139
  | 140, _ => exact List.mem_of_getElem? am_cw140
  | 141, _ => exact List.mem_of_getElem? am_cw141
  | 142, _ => exact List.mem_of_getElem? am_cw142
  | 143, _ => exact List.mem_of_getElem? am_cw143
  | 144, _ => exact List.mem_of_getElem? am_cw144
  | 145, _ => exact List.mem_of_getElem? am_cw145
  | 146, _ => exact List.mem_of_getElem? am_cw146
  | 147, _ => exact List.mem_of_getElem? am_cw147
  | 148, _ => exact List.mem_of_getElem? am_cw148
  | 149, _ => exact List.mem_of_getElem? am_cw149
  | 150, _ => exact List.mem_of_getElem? am_cw150
  | 151, _ => exact List.mem_of_getElem? am_cw151
  | 152, _ => exact List.mem_of_getElem? am_cw152
  | 153, _ => exact List.mem_of_getElem? am_cw153
  | 154, _ => exact List.mem_of_getElem? am_cw154
  | 155, _ => exact List.mem_of_getElem? am_cw155
  | 156, _ => exact List.mem_of_getElem? am_cw156
  | 157, _ => exact List.mem_of_getElem? am_cw157
  | 158, _ => exact List.mem_of_getElem? am_cw158
  | 159, _ => exact List.mem_of_getElem? am_cw159
  | 160, _ => exact List.mem_of_getElem? am_cw160
  | 161, _ => exact List.mem_of_getElem? am_cw161
  | 162, _ => exact List.mem_of_getElem? am_cw162
  | 163, _ => exact List.mem_of_getElem? am_cw163
  | 164, _ => exact List.mem_of_getElem? am_cw164
  | 165, _ => exact List.mem_of_getElem? am_cw165
  | 166, _ => exact List.mem_of_getElem? am_cw166
  | 167, _ => exact List.mem_of_getElem? am_cw167
  | 168, _ => exact List.mem_of_getElem? am_cw168
  | 169, _ => exact List.mem_of_getElem? am_cw169
  | 170, _ => exact List.mem_of_getElem? am_cw170
  | 171, _ => exact List.mem_of_getElem? am_cw171
  | 172, _ => exact List.mem_of_getElem? am_cw172
  | 173, _ => exact List.mem_of_getElem? am_cw173
  | 174, _ => exact List.mem_of_getElem? am_cw174
  | 175, _ => exact List.mem_of_getElem? am_cw175
  | 176, _ => exact List.mem_of_getElem? am_cw176
  | 177, _ => exact List.mem_of_getElem? am_cw177
  | 178, _ => exact List.mem_of_getElem? am_cw178
  | 179, _ => exact List.mem_of_getElem? am_cw179
  | 180, _ => exact List.mem_of_getElem? am_cw180
  | 181, _ => exact List.mem_of_getElem? am_cw181
  | 182, _ => exact List.mem_of_getElem? am_cw182
  | 183, _ => exact List.mem_of_getElem? am_cw183
  | 184, _ => exact List.mem_of_getElem? am_cw184
  | 185, _ => exact List.mem_of_getElem? am_cw185
  | 186, _ => exact List.mem_of_getElem? am_cw186
  | 187, _ => exact List.mem_of_getElem? am_cw187
  | 188, _ => exact List.mem_of_getElem? am_cw188
  | 189, _ => exact List.mem_of_getElem? am_cw189
  | n + 190, h => exact absurd h (by omega)
def am_rk0 (c : Nat) : Bool := match am_rk c, am_rt c with
  | 0, none => true
  | 1, some .int => true
  | 2, some .boolean => true
  | 3, some (.object _) => true
  | 4, some .char => true
  | 5, some .byte => true
  | _, _ => false
set_option maxRecDepth 100000 in
theorem am_rks : (List.range 191).all am_rk0 = true := by decide +kernel
