/-! printed by wip/whole/gen_good.py: what the tables say of what the pools name -/
/-- the words that every contract carries -/
def tbG : List Cond := lw_tbl.filter goodWord
theorem tbG_in : ∀ w ∈ tbG, w ∈ lw_tbl := fun w h => (List.mem_filter.mp h).1
theorem inG (ws : List Cond) (ps : List Nat) (hp : ws = ps.filterMap (fun i => lw_tbl[i]?)) (h : ws.all goodWord = true) : ∀ w ∈ ws, w ∈ tbG := by
  intro w hw
  have h1 := List.all_eq_true.mp h w hw
  rw [hp] at hw
  obtain ⟨i, -, hi⟩ := List.mem_filterMap.mp hw
  exact List.mem_filter.mpr ⟨List.mem_of_getElem? hi, h1⟩
theorem inT (ws : List Cond) (ps : List Nat) (hp : ws = ps.filterMap (fun i => lw_tbl[i]?)) : ∀ w ∈ ws, w ∈ lw_tbl := by
  intro w hw
  rw [hp] at hw
  obtain ⟨i, -, hi⟩ := List.mem_filterMap.mp hw
  exact List.mem_of_getElem? hi
theorem good_self {big : List Cond} (h : ∀ w ∈ tbG, w ∈ big) : GoodIn big tbG := fun w hw => ⟨h w hw, good_of_word (List.mem_filter.mp hw).2⟩
set_option maxRecDepth 100000 in
theorem cl_in0 : ∀ w ∈ u_ws RX0 TX0 3, w ∈ tbG := inG _ [218, 220, 222] (by decide +kernel) (by decide +kernel)
set_option maxRecDepth 100000 in
theorem cl_in1 : ∀ w ∈ u_ws RX1 TX1 14, w ∈ tbG := inG _ [178, 180, 182, 184, 186, 188, 190, 192, 194, 196, 198, 200, 202, 204] (by decide +kernel) (by decide +kernel)
set_option maxRecDepth 100000 in
theorem cl_in2 : ∀ w ∈ u_ws RX2 TX2 2, w ∈ tbG := inG _ [233, 235] (by decide +kernel) (by decide +kernel)
set_option maxRecDepth 100000 in
theorem cl_in3 : ∀ w ∈ u_ws RX3 TX3 3, w ∈ tbG := inG _ [91, 93, 95] (by decide +kernel) (by decide +kernel)
set_option maxRecDepth 100000 in
theorem cl_in4 : ∀ w ∈ u_ws RX4 TX4 5, w ∈ tbG := inG _ [113, 115, 117, 119, 121] (by decide +kernel) (by decide +kernel)
set_option maxRecDepth 100000 in
theorem cl_in5 : ∀ w ∈ u_ws RX5 TX5 2, w ∈ tbG := inG _ [248, 250] (by decide +kernel) (by decide +kernel)
set_option maxRecDepth 100000 in
theorem cl_in6 : ∀ w ∈ u_ws RX6 TX6 10, w ∈ tbG := inG _ [263, 265, 267, 269, 271, 273, 275, 277, 279, 281] (by decide +kernel) (by decide +kernel)
set_option maxRecDepth 100000 in
theorem cl_in7 : ∀ w ∈ u_ws RX7 TX7 23, w ∈ tbG := inG _ [843, 845, 847, 849, 851, 853, 855, 857, 859, 861, 863, 865, 867, 869, 871, 873, 875, 877, 879, 881, 883, 885, 887] (by decide +kernel) (by decide +kernel)
def tyA (c : Nat) : Nat → FieldType := match c with
  | 0 => tyX0
  | 1 => tyX1
  | 2 => tyX2
  | 3 => tyX3
  | 4 => tyX4
  | 5 => tyX5
  | 6 => tyX6
  | _ => tyX7
/-- what is asked of a class whose objects the world holds -/
def clOk (c : Nat) (q : vw_C) : Prop := (∀ w ∈ u_ws q.1 q.2.1 q.2.2, w ∈ tbG) ∧ (∀ a, a < q.2.2 → ∀ b, b < q.2.2 → a ≠ b → (q.2.1 a).2.1 ≠ (q.2.1 b).2.1) ∧ (∀ k, k < q.2.2 → parseFieldDescriptor (q.2.1 k).2.2.1 = some (tyA c k)) ∧ q.1 = cN c
theorem cl_ok : ∀ (c : Nat) (q : vw_C), clA[c]? = some q → clOk c q
  | 0, _, h => by cases h; exact ⟨cl_in0, nmX0, tyX0_ok, rfl⟩
  | 1, _, h => by cases h; exact ⟨cl_in1, nmX1, tyX1_ok, rfl⟩
  | 2, _, h => by cases h; exact ⟨cl_in2, nmX2, tyX2_ok, rfl⟩
  | 3, _, h => by cases h; exact ⟨cl_in3, nmX3, tyX3_ok, rfl⟩
  | 4, _, h => by cases h; exact ⟨cl_in4, nmX4, tyX4_ok, rfl⟩
  | 5, _, h => by cases h; exact ⟨cl_in5, nmX5, tyX5_ok, rfl⟩
  | 6, _, h => by cases h; exact ⟨cl_in6, nmX6, tyX6_ok, rfl⟩
  | 7, _, h => by cases h; exact ⟨cl_in7, nmX7, tyX7_ok, rfl⟩
  | n + 8, _, h => by simp [clA] at h
def clQ (c : Nat) : vw_C := (clA[c]?).getD ("", TX0, 0)
def fldW (e : (Nat × Nat) × (Nat × Nat)) : Cond := .fieldLink (cN e.1.1) e.1.2 ((clQ e.2.1).2.1 e.2.2).1 ((clQ e.2.1).2.1 e.2.2).2.1 ((clQ e.2.1).2.1 e.2.2).2.2.1
set_option maxRecDepth 100000 in
theorem fld_in : ∀ w ∈ (q_fld.map fldW), w ∈ tbG := inG _ [214, 215, 217, 145, 149, 152, 156, 159, 174, 171, 130, 133, 136, 140, 144, 148, 151, 154, 158, 161, 164, 167, 170, 173, 231, 232, 141, 155, 175, 139, 86, 88, 89, 105, 106, 108, 109, 111, 131, 146, 162, 134, 165, 168, 137, 176, 142, 244, 246, 253, 254, 255, 256, 257, 258, 259, 260, 261, 262, 87, 107, 110, 112, 138, 132, 153, 150, 157, 147, 177, 216, 169, 172, 163, 143, 160, 166, 247, 245, 135, 90, 820, 821, 822, 824, 826, 827, 828, 830, 831, 832, 840, 841, 823, 829, 833, 835, 836, 838, 837, 839, 834, 825, 842] (by decide +kernel) (by decide +kernel)
theorem fld_lt : ∀ e ∈ q_fld, e.2.1 < 8 ∧ e.2.2 < (clQ e.2.1).2.2 := by decide +kernel
def conW (e : (Nat × Nat) × Value) : Cond := match e.2 with
  | .int v => .constant (cN e.1.1) e.1.2 v
  | .long v => .constantLong (cN e.1.1) e.1.2 v
  | _ => .initialized "GearRoad"
set_option maxRecDepth 100000 in
theorem con_in : ∀ w ∈ (q_con.map conW), w ∈ tbG := inG _ [495, 604, 629, 638, 400, 295, 351, 417, 471, 676, 742, 743, 744, 300, 748, 752, 907, 902, 1012, 935, 980, 998, 1086, 1095, 1132, 1133, 1134, 1135, 1136] (by decide +kernel) (by decide +kernel)
def stN (k : Nat) : String := if k = 60 then "NEAREST" else if k = 61 then "SIZE_BODIES" else "MARK_BODIES"
def staW (e : (Nat × Nat) × (Nat × Nat)) : Cond := .fieldLink (cN e.1.1) e.1.2 "GearRoad" (stN e.2.1) "[I"
set_option maxRecDepth 100000 in
theorem sta_in : ∀ w ∈ (q_sta.map staW), w ∈ tbG := inG _ [775, 785, 787] (by decide +kernel) (by decide +kernel)
theorem sta_lt : ∀ e ∈ q_sta, e.2.1 = 60 ∨ e.2.1 = 61 ∨ e.2.1 = 62 := by decide +kernel
set_option maxRecDepth 100000 in
theorem virt_link : ∀ w ∈ (q_virt.map (fun e => Cond.methodLink (cN e.1.1) e.1.2 (mY e.2.1))), w ∈ tbG := inG _ [456, 460, 452, 464, 448, 439, 444, 484, 491, 497, 509, 517, 594, 685, 616, 624, 649, 630, 634, 628, 644, 639, 662, 668, 666, 667, 623, 809, 364, 368, 402, 406, 413, 372, 380, 384, 388, 392, 396, 376, 296, 301, 308, 316, 320, 324, 332, 343, 352, 360, 418, 423, 435, 472, 480, 505, 513, 525, 526, 534, 546, 551, 559, 560, 561, 570, 574, 575, 580, 585, 590, 612, 645, 650, 658, 681, 689, 697, 706, 718, 722, 730, 781, 805, 710, 714, 789, 793, 903, 908, 923, 944, 940, 956, 952, 948, 964, 968, 976, 960, 972, 999, 1017, 1046, 1066, 1082, 1096, 1091, 1116, 1120, 1161, 1181, 1177, 1169, 1173, 1165, 1185, 1157, 1189, 284, 892, 312, 912, 328, 919, 339, 927, 347, 931, 356, 936, 427, 981, 431, 985, 501, 1013, 521, 1027, 530, 1031, 538, 1038, 542, 1042, 547, 1050, 555, 1054, 562, 1058, 566, 1062, 576, 1070, 581, 1074, 586, 1078, 608, 1087, 654, 1100, 677, 1104, 693, 1108, 701, 1112, 726, 1124, 738, 1128, 756, 1137, 760, 1141, 764, 1145, 768, 1149, 777, 1153, 797, 1193, 801, 1197, 810, 1201] (by decide +kernel) (by decide +kernel)
set_option maxRecDepth 100000 in
theorem virt_inst : ∀ w ∈ (q_virt.map (fun e => Cond.instanceMethod (mY e.2.1))), w ∈ tbG := inG _ [457, 461, 453, 465, 449, 440, 445, 485, 493, 499, 510, 518, 595, 687, 618, 626, 445, 632, 636, 449, 485, 641, 664, 670, 453, 465, 595, 317, 365, 370, 404, 408, 415, 374, 382, 386, 390, 394, 398, 378, 298, 302, 310, 317, 321, 325, 333, 344, 353, 361, 419, 424, 436, 473, 481, 506, 514, 457, 527, 535, 440, 552, 461, 518, 510, 571, 445, 465, 453, 485, 591, 613, 646, 651, 659, 682, 690, 698, 708, 720, 724, 731, 783, 806, 712, 715, 791, 794, 905, 910, 925, 946, 942, 958, 954, 950, 966, 970, 978, 962, 974, 1001, 1019, 1048, 1068, 1084, 1098, 1093, 1118, 1122, 1163, 1183, 1179, 1171, 1175, 1167, 1187, 1159, 1191, 285, 893, 313, 913, 329, 920, 340, 928, 348, 932, 357, 937, 428, 982, 432, 986, 502, 1014, 522, 1028, 531, 1032, 539, 1039, 543, 1043, 548, 1051, 556, 1055, 563, 1059, 567, 1063, 577, 1071, 582, 1075, 587, 1079, 609, 1088, 655, 1101, 678, 1105, 694, 1109, 702, 1113, 727, 1125, 739, 1129, 757, 1138, 761, 1142, 765, 1146, 769, 1150, 778, 1154, 798, 1194, 802, 1198, 811, 1202] (by decide +kernel) (by decide +kernel)
set_option maxRecDepth 100000 in
theorem virt_sel : ∀ w ∈ (q_virt.map (fun e => Cond.selects (mY e.2.1).cls (mY e.2.1) (mY e.2.1))), w ∈ tbG := inG _ [458, 462, 454, 466, 450, 441, 446, 486, 13, 14, 511, 519, 596, 22, 15, 16, 446, 17, 18, 450, 486, 19, 20, 21, 454, 466, 596, 318, 366, 2, 10, 11, 12, 3, 5, 6, 7, 8, 9, 4, 0, 303, 1, 318, 322, 326, 334, 345, 354, 362, 420, 425, 437, 474, 482, 507, 515, 458, 528, 536, 441, 553, 462, 519, 511, 572, 446, 466, 454, 486, 592, 614, 647, 652, 660, 683, 691, 699, 23, 25, 26, 732, 27, 807, 24, 716, 28, 795, 29, 30, 31, 33, 32, 36, 35, 34, 38, 39, 41, 37, 40, 42, 43, 44, 45, 46, 48, 47, 49, 50, 52, 57, 56, 54, 55, 53, 58, 51, 59, 286, 894, 314, 914, 330, 921, 341, 929, 349, 933, 358, 938, 429, 983, 433, 987, 503, 1015, 523, 1029, 532, 1033, 540, 1040, 544, 1044, 549, 1052, 557, 1056, 564, 1060, 568, 1064, 578, 1072, 583, 1076, 588, 1080, 610, 1089, 656, 1102, 679, 1106, 695, 1110, 703, 1114, 728, 1126, 740, 1130, 758, 1139, 762, 1143, 766, 1147, 770, 1151, 779, 1155, 799, 1195, 803, 1199, 812, 1203] (by decide +kernel) (by decide +kernel)
set_option maxRecDepth 100000 in
theorem virt_ok : ∀ e ∈ q_virt, e.2.1 < 211 ∧ 0 < e.2.2 ∧ mC e.2.1 < 8 ∧ (mY e.2.1).cls = cN (mC e.2.1) ∧ (parseMethodDescriptor (mY e.2.1).desc).map (fun d => d.parameters.length) = some (e.2.2 - 1) := by decide +kernel
def q_st1 : List ((Nat × Nat) × (Nat × Nat)) := [((0, 51), (54, 2)), ((1, 76), (52, 4)), ((1, 80), (57, 3)), ((1, 99), (54, 2)), ((1, 126), (84, 2)), ((1, 129), (83, 1)), ((1, 132), (82, 2)), ((2, 63), (88, 3)), ((2, 66), (84, 2)), ((2, 82), (99, 2)), ((2, 87), (54, 2)), ((3, 25), (13, 2)), ((4, 71), (38, 1)), ((6, 65), (9, 1)), ((6, 69), (10, 3)), ((6, 249), (13, 2)), ((6, 268), (114, 2)), ((6, 279), (116, 2)), ((6, 283), (118, 1)), ((6, 289), (123, 2)), ((6, 306), (99, 2)), ((6, 324), (117, 2)), ((7, 53), (135, 3)), ((7, 57), (134, 1)), ((7, 69), (139, 2)), ((7, 79), (159, 3)), ((7, 84), (163, 1)), ((7, 146), (157, 1)), ((7, 150), (158, 3)), ((7, 158), (161, 2)), ((7, 162), (162, 3)), ((7, 169), (166, 3)), ((7, 172), (167, 2)), ((7, 175), (170, 1))]
def q_st2 : List ((Nat × Nat) × (Nat × Nat)) := [((1, 62), (10, 3)), ((3, 19), (10, 3)), ((4, 100), (10, 3))]
def q_st3 : List ((Nat × Nat) × (Nat × Nat)) := [((0, 42), (999, 5)), ((1, 56), (999, 5)), ((3, 29), (999, 5))]
theorem stat_split : ∀ e ∈ q_stat, e ∈ q_st1 ∨ e ∈ q_st2 ∨ e ∈ q_st3 := by decide +kernel
set_option maxRecDepth 100000 in
theorem st1_link : ∀ w ∈ (q_st1.map (fun e => Cond.methodLink (cN e.1.1) e.1.2 (mY e.2.1))), w ∈ tbG := inG _ [477, 468, 488, 496, 605, 601, 598, 620, 643, 673, 672, 305, 410, 288, 294, 705, 734, 745, 753, 772, 737, 749, 899, 896, 916, 995, 1009, 989, 992, 1003, 1006, 1021, 1024, 1035] (by decide +kernel) (by decide +kernel)
set_option maxRecDepth 100000 in
theorem st1_stat : ∀ w ∈ (q_st1.map (fun e => Cond.static (mY e.2.1))), w ∈ tbG := inG _ [478, 469, 489, 478, 606, 602, 599, 621, 606, 674, 478, 306, 411, 289, 292, 306, 735, 746, 754, 773, 674, 750, 900, 897, 917, 996, 1010, 990, 993, 1004, 1007, 1022, 1025, 1036] (by decide +kernel) (by decide +kernel)
set_option maxRecDepth 100000 in
theorem st1_ok : ∀ e ∈ q_st1, e.2.1 < 211 ∧ (parseMethodDescriptor (mY e.2.1).desc).map (fun d => d.parameters.length) = some e.2.2 := by decide +kernel
set_option maxRecDepth 100000 in
theorem st2_link : ∀ w ∈ (q_st2.map (fun e => Cond.methodLinkNest (cN e.1.1) e.1.2 (mY e.2.1) "GearRoad")), w ∈ lw_tbl := inT _ [443, 291, 401] (by decide +kernel)
set_option maxRecDepth 100000 in
theorem st2_stat : ∀ w ∈ (q_st2.map (fun e => Cond.static (mY e.2.1))), w ∈ tbG := inG _ [292, 292, 292] (by decide +kernel) (by decide +kernel)
set_option maxRecDepth 100000 in
theorem st2_ok : ∀ e ∈ q_st2, e.2.1 < 211 ∧ (parseMethodDescriptor (mY e.2.1).desc).map (fun d => d.parameters.length) = some e.2.2 := by decide +kernel
set_option maxRecDepth 100000 in
theorem st3_link : ∀ w ∈ (q_st3.map (fun e => Cond.methodLink (cN e.1.1) e.1.2 arraycopyName)), w ∈ tbG := inG _ [476, 422, 336] (by decide +kernel) (by decide +kernel)
theorem acp_words : ∀ w ∈ [Cond.native arraycopyName, Cond.static arraycopyName, Cond.initialized "java/lang/System"], w ∈ tbG := inG _ [338, 337, 69] (by decide +kernel) (by decide +kernel)
theorem st3_ok : ∀ e ∈ q_st3, e.2.1 = 999 := by decide +kernel
theorem st12_ok : (∀ e ∈ q_st1, ¬ e.2.1 = 999) ∧ (∀ e ∈ q_st2, ¬ e.2.1 = 999) := by decide +kernel
set_option maxRecDepth 100000 in
theorem meth_code : ((List.range 211).map (fun j => Cond.code (mY j) (mB j) (mL j) (mT j))) = ([76, 79, 84, 103, 128, 212, 229, 242, 287, 290, 293, 299, 304, 307, 311, 315, 319, 323, 327, 331, 335, 342, 346, 350, 355, 359, 363, 367, 371, 375, 379, 383, 387, 391, 395, 399, 405, 409, 412, 416, 421, 426, 430, 434, 438, 442, 447, 451, 455, 459, 463, 467, 470, 475, 479, 483, 487, 490, 494, 500, 504, 508, 512, 516, 520, 524, 529, 533, 537, 541, 545, 550, 554, 558, 565, 569, 573, 579, 584, 589, 593, 597, 600, 603, 607, 611, 615, 619, 622, 627, 633, 637, 642, 648, 653, 657, 661, 665, 671, 675, 680, 684, 688, 692, 696, 700, 704, 709, 713, 717, 721, 725, 729, 733, 736, 741, 747, 751, 755, 759, 763, 767, 771, 774, 780, 784, 792, 796, 800, 804, 808, 813, 818, 895, 898, 901, 906, 911, 915, 918, 922, 926, 930, 934, 939, 943, 947, 951, 955, 959, 963, 967, 971, 975, 979, 984, 988, 991, 994, 997, 1002, 1005, 1008, 1011, 1016, 1020, 1023, 1026, 1030, 1034, 1037, 1041, 1045, 1049, 1053, 1057, 1061, 1065, 1069, 1073, 1077, 1081, 1085, 1090, 1094, 1099, 1103, 1107, 1111, 1115, 1119, 1123, 1127, 1131, 1140, 1144, 1148, 1152, 1156, 1160, 1164, 1168, 1172, 1176, 1180, 1184, 1188, 1192, 1196, 1200, 1204] : List Nat).filterMap (fun i => lw_tbl[i]?) := by rfl
set_option maxRecDepth 100000 in
theorem meth_init : ∀ w ∈ (([0, 2, 3, 4, 5, 6, 7, 8, 9, 10, 11, 12, 13, 14, 15, 16, 17, 18, 19, 20, 21, 22, 23, 24, 25, 26, 27, 28, 29, 30, 31, 32, 33, 34, 35, 36, 37, 38, 39, 40, 41, 42, 43, 44, 45, 46, 47, 48, 49, 50, 51, 52, 53, 54, 55, 56, 57, 58, 59, 60, 61, 62, 63, 64, 65, 66, 67, 68, 69, 70, 71, 72, 73, 74, 75, 76, 77, 78, 79, 80, 81, 82, 83, 84, 85, 86, 87, 88, 89, 90, 91, 92, 93, 94, 95, 96, 97, 98, 99, 100, 101, 102, 103, 104, 105, 106, 107, 108, 109, 110, 111, 112, 113, 114, 115, 116, 117, 118, 119, 120, 121, 122, 123, 124, 125, 126, 127, 128, 129, 130, 131, 132, 133, 134, 135, 136, 137, 138, 139, 140, 141, 142, 143, 144, 145, 146, 147, 148, 149, 150, 151, 152, 153, 154, 155, 156, 157, 158, 159, 160, 161, 162, 163, 164, 165, 166, 167, 168, 169, 170, 171, 172, 173, 174, 175, 176, 177, 178, 179, 180, 181, 182, 183, 184, 185, 186, 187, 188, 189, 190, 191, 192, 193, 194, 195, 196, 197, 198, 199, 200, 201, 202, 203, 204, 205, 206, 207, 208, 209, 210] : List Nat).map (fun j => Cond.initialized (mY j).cls)), w ∈ tbG := inG _ [61, 62, 63, 64, 65, 66, 67, 61, 62, 61, 61, 62, 62, 61, 61, 62, 62, 62, 61, 62, 61, 62, 61, 63, 61, 63, 64, 63, 63, 63, 63, 63, 63, 63, 63, 63, 63, 63, 63, 64, 65, 61, 61, 64, 64, 64, 64, 64, 64, 64, 64, 64, 65, 70, 64, 64, 64, 64, 64, 61, 64, 64, 64, 64, 61, 64, 61, 64, 61, 61, 61, 65, 61, 61, 61, 64, 61, 61, 61, 64, 64, 71, 70, 64, 61, 66, 66, 66, 66, 66, 66, 66, 66, 66, 61, 66, 66, 66, 70, 61, 64, 64, 64, 61, 64, 61, 61, 61, 64, 61, 61, 61, 64, 61, 61, 61, 61, 61, 61, 61, 61, 61, 61, 61, 61, 61, 67, 61, 61, 62, 61, 68, 68, 68, 68, 68, 68, 68, 68, 68, 68, 68, 68, 68, 68, 68, 68, 68, 68, 68, 68, 68, 68, 68, 68, 68, 68, 68, 68, 68, 68, 68, 68, 68, 68, 68, 68, 68, 68, 68, 68, 68, 68, 68, 68, 68, 68, 68, 68, 68, 68, 68, 68, 68, 68, 68, 68, 68, 68, 68, 68, 68, 68, 68, 68, 68, 68, 68, 68, 68, 68, 68, 68, 68, 68, 68, 68, 68, 68, 68] (by decide +kernel) (by decide +kernel)
theorem meth_init_all : ∀ j, j < 211 → ¬ j = 1 → j ∈ ([0, 2, 3, 4, 5, 6, 7, 8, 9, 10, 11, 12, 13, 14, 15, 16, 17, 18, 19, 20, 21, 22, 23, 24, 25, 26, 27, 28, 29, 30, 31, 32, 33, 34, 35, 36, 37, 38, 39, 40, 41, 42, 43, 44, 45, 46, 47, 48, 49, 50, 51, 52, 53, 54, 55, 56, 57, 58, 59, 60, 61, 62, 63, 64, 65, 66, 67, 68, 69, 70, 71, 72, 73, 74, 75, 76, 77, 78, 79, 80, 81, 82, 83, 84, 85, 86, 87, 88, 89, 90, 91, 92, 93, 94, 95, 96, 97, 98, 99, 100, 101, 102, 103, 104, 105, 106, 107, 108, 109, 110, 111, 112, 113, 114, 115, 116, 117, 118, 119, 120, 121, 122, 123, 124, 125, 126, 127, 128, 129, 130, 131, 132, 133, 134, 135, 136, 137, 138, 139, 140, 141, 142, 143, 144, 145, 146, 147, 148, 149, 150, 151, 152, 153, 154, 155, 156, 157, 158, 159, 160, 161, 162, 163, 164, 165, 166, 167, 168, 169, 170, 171, 172, 173, 174, 175, 176, 177, 178, 179, 180, 181, 182, 183, 184, 185, 186, 187, 188, 189, 190, 191, 192, 193, 194, 195, 196, 197, 198, 199, 200, 201, 202, 203, 204, 205, 206, 207, 208, 209, 210] : List Nat) := by decide +kernel
set_option maxRecDepth 100000 in
theorem meth_ok : ∀ j, j < 211 → ¬ j = 1 → plainFor (mY j) = true ∧ (mY j).cls ≠ "java/lang/invoke/MethodHandle" ∧ (mY j).cls ≠ "java/lang/invoke/VarHandle" ∧ mL j ≤ 20 ∧ (mY j).cls = cN (mC j) := by decide +kernel
