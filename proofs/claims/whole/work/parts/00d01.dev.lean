section
-- from 02
def pm_fk0 (k : Nat) : Nat := ([3, 3, 3, 3, 3, 3, 3, 3, 0, 3, 3, 1, 0, 1, 0] : List Nat).getD k 0
def pm_fin0 (k : Nat) : Bool := ([true, true, true, true, true, true, true, true, false, false, false, false, false, false, false] : List Bool).getD k false
def pm_fk1 (k : Nat) : Nat := ([3, 0, 0] : List Nat).getD k 0
def pm_fin1 (k : Nat) : Bool := ([true, false, false] : List Bool).getD k false
def pm_fk2 (k : Nat) : Nat := ([3, 3, 3, 3, 3, 3, 0] : List Nat).getD k 0
def pm_fin2 (k : Nat) : Bool := ([false, false, false, false, false, true, false] : List Bool).getD k false
def pm_fk3 (k : Nat) : Nat := ([3, 3, 0, 0] : List Nat).getD k 0
def pm_fin3 (k : Nat) : Bool := ([true, true, false, false] : List Bool).getD k false
def pm_fk4 (k : Nat) : Nat := ([3, 3, 3, 3, 3, 3, 0] : List Nat).getD k 0
def pm_fin4 (k : Nat) : Bool := ([true, true, true, true, true, true, false] : List Bool).getD k false
def pm_fk5 (k : Nat) : Nat := ([3, 3, 3, 3, 3, 3, 0, 0, 0, 0, 0, 1, 1] : List Nat).getD k 0
def pm_fin5 (k : Nat) : Bool := ([true, true, true, true, true, false, false, false, false, false, false, false, false] : List Bool).getD k false
def pm_fk6 (k : Nat) : Nat := ([3, 3, 0] : List Nat).getD k 0
def pm_fin6 (k : Nat) : Bool := ([true, false, false] : List Bool).getD k false
def pm_fk7 (k : Nat) : Nat := ([3, 3, 3, 3, 3, 3, 3, 3, 3, 0, 0, 0, 0, 0, 1, 0, 0] : List Nat).getD k 0
def pm_fin7 (k : Nat) : Bool := ([false, false, false, false, true, true, true, true, false, false, false, false, false, false, false, false, false] : List Bool).getD k false
def pm_fk8 (k : Nat) : Nat := ([3, 3, 3, 3, 0] : List Nat).getD k 0
def pm_fin8 (k : Nat) : Bool := ([false, false, false, false, false] : List Bool).getD k false
def pm_fk9 (k : Nat) : Nat := ([0, 3, 0, 3, 0, 0, 3, 3, 3, 3, 3, 0, 3, 3, 3, 3, 0, 3, 3, 3, 3, 3, 0, 3, 0, 3, 3, 3, 3, 0, 3, 3, 0, 0, 0, 3, 0, 3, 3, 3, 3, 3, 3, 1, 1, 0, 0, 0, 0, 1, 0, 3, 3, 3, 0, 3, 3, 3, 3, 0, 3, 3, 3, 3, 3, 3] : List Nat).getD k 0
def pm_fin9 (k : Nat) : Bool := ([false, true, false, true, false, false, true, true, true, true, true, false, true, true, true, true, false, true, true, true, true, true, false, true, false, true, true, true, true, false, true, true, false, false, false, true, false, true, true, true, true, true, true, false, false, false, false, false, false, false, false, true, true, true, false, true, true, true, true, false, true, true, true, true, true, true] : List Bool).getD k false
def pm_fk (c : Nat) : Nat → Nat := match c with
  | 0 => pm_fk0
  | 1 => pm_fk1
  | 2 => pm_fk2
  | 3 => pm_fk3
  | 4 => pm_fk4
  | 5 => pm_fk5
  | 6 => pm_fk6
  | 7 => pm_fk7
  | 8 => pm_fk8
  | 9 => pm_fk9
  | _ => fun _ => 0
def pm_fin (c : Nat) : Nat → Bool := match c with
  | 0 => pm_fin0
  | 1 => pm_fin1
  | 2 => pm_fin2
  | 3 => pm_fin3
  | 4 => pm_fin4
  | 5 => pm_fin5
  | 6 => pm_fin6
  | 7 => pm_fin7
  | 8 => pm_fin8
  | 9 => pm_fin9
  | _ => fun _ => false
def pm_nf (c : Nat) : Nat := ([15, 3, 7, 4, 7, 13, 3, 17, 5, 66] : List Nat).getD c 0
def pm_own (o c : Nat) : Bool := decide (o = c)
def pm_fl0 : List (Nat × Nat × Nat × Nat × Bool) := [(145, 1, 1, 197, true), (201, 2, 4, 225, true), (160, 3, 0, 250, true), (159, 3, 2, 253, true), (93, 5, 10, 318, true), (96, 5, 11, 320, true), (100, 5, 12, 322, true), (118, 6, 2, 360, true), (183, 7, 15, 415, true), (191, 7, 16, 417, true), (9, 0, 0, 453, false), (15, 0, 1, 454, false), (20, 0, 2, 455, false), (27, 0, 3, 456, false), (34, 0, 4, 457, false), (57, 0, 5, 458, false), (66, 0, 6, 459, false), (75, 0, 7, 460, false), (79, 0, 8, 461, false), (41, 0, 9, 462, false), (45, 0, 10, 463, false), (163, 0, 11, 464, false), (48, 0, 12, 465, false), (177, 0, 13, 466, false), (180, 0, 14, 467, false)]
def pm_ml0 : List (Nat × Nat × Nat × Bool) := [(19, 23, 190, true), (26, 26, 211, true), (33, 62, 245, true), (40, 67, 266, true), (54, 73, 304, true), (63, 100, 353, true), (72, 113, 370, true), (82, 17, 507, false), (86, 27, 510, true), (89, 74, 514, true), (103, 37, 656, true), (107, 75, 676, true), (111, 22, 680, false), (205, 101, 684, true), (114, 102, 688, true), (119, 18, 843, false), (122, 20, 847, false), (126, 39, 851, true), (197, 48, 859, true), (130, 41, 864, true), (134, 52, 869, true), (138, 21, 870, false), (142, 55, 878, true), (148, 63, 887, true), (151, 59, 891, true), (155, 66, 907, true), (166, 24, 923, true), (170, 19, 931, false), (174, 114, 939, true), (194, 127, 1031, true)]
def pm_bl0 : List (Nat × Nat × Nat) := [(1, 1, 184), (186, 2, 1022)]
def pm_fl1 : List (Nat × Nat × Nat × Nat × Bool) := [(9, 1, 0, 194, false), (15, 1, 1, 196, false)]
def pm_ml1 : List (Nat × Nat × Nat × Bool) := []
def pm_bl1 : List (Nat × Nat × Nat) := [(3, 1, 193)]
def pm_fl2 : List (Nat × Nat × Nat × Nat × Bool) := [(83, 1, 0, 195, true), (62, 1, 1, 198, true), (76, 1, 2, 199, true), (11, 2, 0, 215, false), (15, 2, 1, 217, false), (18, 2, 2, 219, false), (21, 2, 3, 221, false), (24, 2, 4, 222, false), (27, 2, 5, 226, false), (30, 2, 6, 227, false)]
def pm_ml2 : List (Nat × Nat × Nat × Bool) := [(54, 28, 553, false), (34, 29, 557, false), (48, 211, 562, false), (38, 31, 576, false), (65, 38, 660, false), (69, 25, 664, true), (73, 34, 668, false), (90, 35, 704, false), (93, 36, 708, false), (97, 30, 712, false), (100, 42, 713, false), (103, 43, 714, false), (110, 45, 732, false), (113, 49, 740, false), (117, 32, 744, false), (58, 33, 748, false), (120, 50, 752, false), (123, 48, 756, false), (126, 51, 757, false), (86, 41, 761, false), (129, 47, 765, false), (106, 44, 782, false), (132, 53, 814, false), (135, 54, 818, false), (141, 52, 822, false), (138, 55, 823, false), (144, 56, 827, false), (147, 57, 831, false), (150, 58, 835, false), (79, 40, 855, false), (153, 61, 895, false), (157, 64, 898, true), (163, 59, 902, false), (167, 60, 903, false)]
def pm_bl2 : List (Nat × Nat × Nat) := [(3, 1, 214), (42, 2, 561)]
def pm_fl3 : List (Nat × Nat × Nat × Nat × Bool) := [(9, 3, 0, 249, false), (15, 3, 1, 251, false), (26, 3, 2, 252, false), (18, 3, 3, 254, false)]
def pm_ml3 : List (Nat × Nat × Nat × Bool) := [(22, 65, 911, false)]
def pm_bl3 : List (Nat × Nat × Nat) := [(3, 1, 248)]
def pm_fl4 : List (Nat × Nat × Nat × Nat × Bool) := [(9, 4, 0, 270, false), (15, 4, 1, 273, false), (18, 4, 2, 275, false), (21, 4, 3, 278, false), (24, 4, 4, 281, false), (27, 4, 5, 284, false), (30, 4, 6, 285, false)]
def pm_ml4 : List (Nat × Nat × Nat × Bool) := [(34, 70, 974, false)]
def pm_bl4 : List (Nat × Nat × Nat) := [(3, 1, 269)]
def pm_fl5 : List (Nat × Nat × Nat × Nat × Bool) := [(88, 2, 4, 224, true), (44, 4, 6, 286, true), (22, 5, 0, 308, false), (9, 5, 1, 309, false), (15, 5, 2, 310, false), (18, 5, 3, 311, false), (26, 5, 4, 312, false), (29, 5, 5, 313, false), (59, 5, 6, 314, false), (62, 5, 7, 315, false), (65, 5, 8, 316, false), (68, 5, 9, 317, false), (78, 5, 10, 319, false), (71, 5, 11, 321, false), (75, 5, 12, 323, false)]
def pm_ml5 : List (Nat × Nat × Nat × Bool) := [(33, 76, 518, false), (37, 86, 525, false), (85, 87, 529, false), (93, 79, 533, false), (81, 78, 537, false), (97, 80, 541, false), (101, 84, 545, false), (105, 30, 549, true), (108, 90, 579, false), (126, 81, 583, false), (129, 91, 587, false), (50, 92, 591, false), (137, 68, 595, true), (140, 85, 599, false), (133, 69, 603, true), (143, 93, 607, false), (146, 94, 611, false), (164, 83, 615, false), (149, 95, 619, false), (152, 96, 623, false), (122, 82, 627, false), (155, 97, 631, false), (158, 98, 635, false), (161, 99, 639, false), (118, 28, 643, true), (112, 88, 644, false), (115, 89, 648, false), (41, 77, 652, false)]
def pm_bl5 : List (Nat × Nat × Nat) := [(3, 1, 307), (53, 2, 522)]
def pm_fl6 : List (Nat × Nat × Nat × Nat × Bool) := [(88, 2, 0, 216, true), (91, 2, 1, 218, true), (96, 2, 2, 220, true), (27, 2, 4, 223, true), (38, 4, 0, 271, true), (33, 4, 1, 274, true), (69, 4, 2, 276, true), (66, 4, 3, 279, true), (76, 4, 4, 283, true), (9, 6, 0, 357, false), (15, 6, 1, 358, false), (19, 6, 2, 359, false)]
def pm_ml6 : List (Nat × Nat × Nat × Bool) := [(23, 103, 692, false), (41, 104, 696, false), (72, 42, 700, true), (45, 105, 718, false), (79, 102, 722, false), (82, 28, 723, true), (48, 106, 724, false), (85, 46, 728, true), (92, 48, 736, true), (51, 107, 769, false), (97, 47, 773, true), (54, 108, 774, false), (101, 44, 778, true), (57, 109, 783, false), (105, 110, 787, false), (108, 70, 791, true), (111, 71, 795, true), (60, 111, 799, false), (114, 33, 803, true), (118, 31, 804, true), (119, 34, 805, true), (63, 112, 806, false), (120, 52, 810, true)]
def pm_bl6 : List (Nat × Nat × Nat) := [(3, 1, 356)]
def pm_fl7 : List (Nat × Nat × Nat × Nat × Bool) := [(85, 4, 0, 272, true), (108, 4, 2, 277, true), (90, 4, 3, 280, true), (111, 4, 4, 282, true), (144, 8, 0, 381, true), (146, 8, 1, 383, true), (48, 8, 4, 387, true), (11, 7, 0, 399, false), (15, 7, 1, 400, false), (18, 7, 2, 401, false), (21, 7, 3, 402, false), (24, 7, 4, 403, false), (27, 7, 5, 404, false), (30, 7, 6, 405, false), (36, 7, 7, 406, false), (40, 7, 8, 407, false), (44, 7, 9, 408, false), (51, 7, 10, 409, false), (79, 7, 11, 410, false), (82, 7, 12, 411, false), (69, 7, 13, 412, false), (57, 7, 14, 413, false), (54, 7, 15, 414, false), (61, 7, 16, 416, false)]
def pm_ml7 : List (Nat × Nat × Nat × Bool) := [(35, 129, 376, true), (64, 115, 943, false), (72, 117, 948, false), (93, 119, 952, false), (97, 130, 956, true), (101, 118, 966, false), (117, 72, 970, true), (114, 120, 975, false), (123, 121, 979, false), (131, 211, 984, false), (120, 71, 985, true), (104, 116, 986, false), (75, 122, 990, false), (137, 124, 994, false), (140, 123, 998, false), (153, 125, 1002, false), (149, 132, 1006, true), (150, 126, 1010, false), (157, 133, 1014, true), (161, 65, 1035, true), (166, 64, 1036, true), (170, 128, 1037, false), (174, 70, 1041, true), (177, 127, 1042, false)]
def pm_bl7 : List (Nat × Nat × Nat) := [(5, 1, 373), (126, 2, 983)]
def pm_fl8 : List (Nat × Nat × Nat × Nat × Bool) := [(13, 8, 0, 380, false), (17, 8, 1, 382, false), (20, 8, 2, 384, false), (23, 8, 3, 385, false), (26, 8, 4, 386, false)]
def pm_ml8 : List (Nat × Nat × Nat × Bool) := [(30, 131, 960, false), (40, 211, 965, false)]
def pm_bl8 : List (Nat × Nat × Nat) := [(5, 1, 379), (34, 2, 964)]
def pm_fl9 : List (Nat × Nat × Nat × Nat × Bool) := [(144, 9, 0, 1049, false), (7, 9, 1, 1050, false), (309, 9, 2, 1051, false), (13, 9, 3, 1052, false), (283, 9, 4, 1053, false), (150, 9, 5, 1054, false), (16, 9, 6, 1055, false), (19, 9, 7, 1056, false), (22, 9, 8, 1057, false), (25, 9, 9, 1058, false), (28, 9, 10, 1059, false), (153, 9, 11, 1060, false), (31, 9, 12, 1061, false), (34, 9, 13, 1062, false), (37, 9, 14, 1063, false), (40, 9, 15, 1064, false), (147, 9, 16, 1065, false), (43, 9, 17, 1066, false), (46, 9, 18, 1067, false), (49, 9, 19, 1068, false), (52, 9, 20, 1069, false), (55, 9, 21, 1070, false), (59, 9, 22, 1071, false), (63, 9, 23, 1072, false), (212, 9, 24, 1073, false), (66, 9, 25, 1074, false), (69, 9, 26, 1075, false), (72, 9, 27, 1076, false), (75, 9, 28, 1077, false), (286, 9, 29, 1078, false), (78, 9, 30, 1079, false), (81, 9, 31, 1080, false), (321, 9, 32, 1081, false), (324, 9, 33, 1082, false), (218, 9, 34, 1083, false), (84, 9, 35, 1084, false), (241, 9, 36, 1085, false), (87, 9, 37, 1086, false), (90, 9, 38, 1087, false), (93, 9, 39, 1088, false), (96, 9, 40, 1089, false), (99, 9, 41, 1090, false), (102, 9, 42, 1091, false), (292, 9, 43, 1092, false), (356, 9, 44, 1093, false), (359, 9, 45, 1094, false), (377, 9, 46, 1095, false), (380, 9, 47, 1096, false), (386, 9, 48, 1097, false), (383, 9, 49, 1098, false), (362, 9, 50, 1099, false), (105, 9, 51, 1100, false), (108, 9, 52, 1101, false), (111, 9, 53, 1102, false), (365, 9, 54, 1103, false), (114, 9, 55, 1104, false), (117, 9, 56, 1105, false), (120, 9, 57, 1106, false), (123, 9, 58, 1107, false), (368, 9, 59, 1108, false), (126, 9, 60, 1109, false), (129, 9, 61, 1110, false), (132, 9, 62, 1111, false), (135, 9, 63, 1112, false), (138, 9, 64, 1113, false), (141, 9, 65, 1114, false)]
def pm_ml9 : List (Nat × Nat × Nat × Bool) := [(269, 170, 1257, false), (273, 143, 1261, false), (160, 136, 1265, false), (178, 142, 1269, false), (168, 139, 1273, false), (156, 137, 1277, false), (164, 138, 1281, false), (172, 140, 1285, false), (175, 141, 1289, false), (276, 148, 1293, false), (186, 146, 1297, false), (189, 145, 1301, false), (182, 144, 1305, false), (280, 155, 1309, false), (202, 147, 1313, false), (289, 174, 1321, false), (296, 171, 1329, false), (299, 172, 1333, false), (244, 161, 1337, false), (221, 160, 1341, false), (225, 162, 1345, false), (192, 149, 1349, false), (229, 158, 1353, false), (215, 156, 1357, false), (205, 150, 1361, false), (209, 153, 1365, false), (199, 152, 1369, false), (196, 151, 1373, false), (232, 159, 1376, false), (235, 154, 1380, false), (238, 157, 1384, false), (306, 178, 1396, false), (302, 169, 1400, false), (255, 163, 1404, false), (262, 166, 1408, false), (247, 164, 1412, false), (251, 167, 1416, false), (259, 165, 1420, false), (266, 168, 1424, false), (315, 183, 1440, false), (312, 182, 1444, false), (318, 184, 1448, false), (353, 195, 1460, false), (347, 187, 1464, false), (350, 194, 1468, false), (330, 189, 1472, false), (338, 191, 1476, false), (341, 190, 1480, false), (344, 193, 1484, false), (327, 188, 1488, false), (334, 192, 1492, false), (371, 199, 1504, false), (374, 206, 1508, false), (401, 205, 1512, false), (398, 204, 1516, false), (389, 200, 1520, false), (405, 203, 1524, false), (392, 201, 1528, false), (395, 202, 1532, false), (408, 210, 1548, false)]
def pm_bl9 : List (Nat × Nat × Nat) := [(1, 1, 1048)]
def pm_fl10 : List (Nat × Nat × Nat × Nat × Bool) := []
def pm_ml10 : List (Nat × Nat × Nat × Bool) := [(9, 0, 181, false), (13, 1, 499, false), (18, 2, 503, false), (23, 3, 672, false), (28, 4, 839, false), (33, 5, 860, false), (37, 6, 865, false), (42, 7, 874, false), (46, 8, 879, false), (50, 9, 883, false), (54, 10, 915, false), (58, 11, 919, false), (62, 12, 927, false), (67, 13, 935, false), (72, 14, 1018, false), (76, 15, 1023, false), (80, 16, 1027, false), (12, 134, 1045, false), (17, 135, 1249, false), (22, 173, 1253, false), (27, 175, 1317, false), (32, 176, 1325, false), (36, 177, 1388, false), (41, 179, 1392, false), (45, 180, 1428, false), (49, 181, 1432, false), (53, 185, 1436, false), (57, 186, 1452, false), (61, 196, 1456, false), (66, 197, 1496, false), (71, 198, 1500, false), (75, 207, 1536, false), (79, 208, 1540, false), (83, 209, 1544, false)]
def pm_bl10 : List (Nat × Nat × Nat) := []
def pm_fl11 : List (Nat × Nat × Nat × Nat × Bool) := []
def pm_ml11 : List (Nat × Nat × Nat × Bool) := []
def pm_bl11 : List (Nat × Nat × Nat) := [(304, 2, 572), (150, 3, 573)]
def pm_fl (c : Nat) : List (Nat × Nat × Nat × Nat × Bool) := match c with
  | 0 => pm_fl0
  | 1 => pm_fl1
  | 2 => pm_fl2
  | 3 => pm_fl3
  | 4 => pm_fl4
  | 5 => pm_fl5
  | 6 => pm_fl6
  | 7 => pm_fl7
  | 8 => pm_fl8
  | 9 => pm_fl9
  | 10 => pm_fl10
  | 11 => pm_fl11
  | _ => []
def pm_ml (c : Nat) : List (Nat × Nat × Nat × Bool) := match c with
  | 0 => pm_ml0
  | 1 => pm_ml1
  | 2 => pm_ml2
  | 3 => pm_ml3
  | 4 => pm_ml4
  | 5 => pm_ml5
  | 6 => pm_ml6
  | 7 => pm_ml7
  | 8 => pm_ml8
  | 9 => pm_ml9
  | 10 => pm_ml10
  | 11 => pm_ml11
  | _ => []
def pm_bl (c : Nat) : List (Nat × Nat × Nat) := match c with
  | 0 => pm_bl0
  | 1 => pm_bl1
  | 2 => pm_bl2
  | 3 => pm_bl3
  | 4 => pm_bl4
  | 5 => pm_bl5
  | 6 => pm_bl6
  | 7 => pm_bl7
  | 8 => pm_bl8
  | 9 => pm_bl9
  | 10 => pm_bl10
  | 11 => pm_bl11
  | _ => []
def pm_nl : List ((Nat × Nat) × Nat × Nat) := [((10, 7), 0, 179), ((0, 13), 1, 187), ((0, 24), 2, 209), ((0, 31), 3, 243), ((0, 38), 4, 264), ((0, 52), 5, 302), ((0, 61), 6, 351), ((0, 70), 7, 368), ((7, 33), 8, 374), ((10, 10), 9, 1043)]
def pm_qc : Nat := 1
def pm_dl : List ((Nat × Nat) × Int32 × Nat) := [((7, 68), 1000000, 947)]
def pm_lk {α : Type} (l : List (Nat × α)) (i : Nat) : Option α := match l with
  | [] => none
  | (j, v) :: l => if i = j then some v else pm_lk l i
def pm_lk2 {α : Type} (l : List ((Nat × Nat) × α)) (o i : Nat) : Option α := match l with
  | [] => none
  | ((p, j), v) :: l => if o = p ∧ i = j then some v else pm_lk2 l o i
def pm_fld (o i : Nat) : Option (Nat × Nat) := match pm_lk (pm_fl o) i with
  | some (c, f, _) => some (c, f)
  | none => none
def pm_mth (o i : Nat) : Option Nat := match pm_lk (pm_ml o) i with
  | some (j, _) => some j
  | none => none
def pm_bi (o i : Nat) : Nat := match pm_lk (pm_bl o) i with
  | some (k, _) => k
  | none => 0
def pm_new (o i : Nat) : Option Nat := match pm_lk2 pm_nl o i with
  | some (c, _) => some c
  | none => none
def pm_anw (o i : Nat) : Bool := match pm_new o i with
  | some c => decide (c = pm_qc)
  | none => false
def pm_ldc (o i : Nat) : Option Int32 := match pm_lk2 pm_dl o i with
  | some (v, _) => some v
  | none => none
def pm_nk : Nat := 4
def pm_cnt : Nat := 212
def pm_code_0 : List (ByteArray) := [prog_1_method_1_code, prog_1_method_2_code, prog_1_method_3_code, prog_1_method_4_code, prog_1_method_5_code, prog_1_method_6_code, prog_1_method_7_code, prog_1_method_8_code, prog_1_method_9_code, prog_1_method_10_code, prog_1_method_11_code, prog_1_method_12_code, prog_1_method_13_code, prog_1_method_14_code, prog_1_method_15_code, prog_1_method_16_code]
def pm_code_1 : List (ByteArray) := [prog_1_method_17_code, prog_1_method_18_code, prog_1_method_19_code, prog_1_method_20_code, prog_1_method_21_code, prog_1_method_22_code, prog_1_method_23_code, prog_3_method_1_code, prog_3_method_2_code, prog_3_method_3_code, prog_8_method_1_code, prog_8_method_2_code, prog_8_method_3_code, prog_8_method_4_code, prog_8_method_5_code, prog_8_method_6_code]
def pm_code_2 : List (ByteArray) := [prog_8_method_7_code, prog_8_method_8_code, prog_8_method_9_code, prog_8_method_10_code, prog_8_method_11_code, prog_8_method_12_code, prog_8_method_13_code, prog_8_method_14_code, prog_8_method_15_code, prog_8_method_16_code, prog_8_method_17_code, prog_8_method_18_code, prog_8_method_19_code, prog_8_method_20_code, prog_8_method_21_code, prog_8_method_22_code]
def pm_code_3 : List (ByteArray) := [prog_8_method_23_code, prog_8_method_24_code, prog_8_method_25_code, prog_8_method_26_code, prog_8_method_27_code, prog_8_method_28_code, prog_8_method_29_code, prog_8_method_30_code, prog_8_method_31_code, prog_8_method_32_code, prog_8_method_33_code, prog_8_method_34_code, prog_8_method_35_code, prog_8_method_36_code, prog_5_method_1_code, prog_5_method_2_code]
def pm_code_4 : List (ByteArray) := [prog_5_method_3_code, prog_5_method_4_code, prog_5_method_5_code, prog_7_method_1_code, prog_7_method_2_code, prog_7_method_3_code, prog_7_method_4_code, prog_7_method_5_code, prog_7_method_6_code, prog_6_method_1_code, prog_6_method_2_code, prog_6_method_3_code, prog_6_method_4_code, prog_6_method_5_code, prog_6_method_6_code, prog_6_method_7_code]
def pm_code_5 : List (ByteArray) := [prog_6_method_8_code, prog_6_method_9_code, prog_6_method_10_code, prog_6_method_11_code, prog_6_method_12_code, prog_6_method_13_code, prog_6_method_14_code, prog_6_method_15_code, prog_6_method_16_code, prog_6_method_17_code, prog_6_method_18_code, prog_6_method_19_code, prog_6_method_20_code, prog_6_method_21_code, prog_6_method_22_code, prog_6_method_23_code]
def pm_code_6 : List (ByteArray) := [prog_6_method_24_code, prog_6_method_25_code, prog_6_method_26_code, prog_6_method_27_code, prog_2_method_1_code, prog_2_method_2_code, prog_2_method_3_code, prog_2_method_4_code, prog_2_method_5_code, prog_2_method_6_code, prog_2_method_7_code, prog_2_method_8_code, prog_2_method_9_code, prog_2_method_10_code, prog_2_method_11_code, prog_2_method_12_code]
def pm_code_7 : List (ByteArray) := [prog_2_method_13_code, prog_4_method_1_code, prog_4_method_2_code, prog_4_method_3_code, prog_4_method_4_code, prog_4_method_5_code, prog_4_method_6_code, prog_4_method_7_code, prog_4_method_8_code, prog_4_method_9_code, prog_4_method_10_code, prog_4_method_11_code, prog_4_method_12_code, prog_4_method_13_code, prog_4_method_14_code, prog_4_method_15_code]
def pm_code_8 : List (ByteArray) := [prog_4_method_16_code, prog_9_method_1_code, prog_9_method_2_code, prog_9_method_3_code, prog_9_method_4_code, prog_9_method_5_code, prog_11_method_1_code, prog_11_method_2_code, prog_11_method_3_code, prog_11_method_4_code, prog_11_method_5_code, prog_11_method_6_code, prog_11_method_7_code, prog_11_method_8_code, prog_11_method_9_code, prog_11_method_10_code]
def pm_code_9 : List (ByteArray) := [prog_11_method_11_code, prog_11_method_12_code, prog_11_method_13_code, prog_11_method_14_code, prog_11_method_15_code, prog_11_method_16_code, prog_11_method_17_code, prog_11_method_18_code, prog_11_method_19_code, prog_11_method_20_code, prog_11_method_21_code, prog_11_method_22_code, prog_11_method_23_code, prog_11_method_24_code, prog_11_method_25_code, prog_11_method_26_code]
def pm_code_10 : List (ByteArray) := [prog_11_method_27_code, prog_11_method_28_code, prog_11_method_29_code, prog_11_method_30_code, prog_11_method_31_code, prog_11_method_32_code, prog_11_method_33_code, prog_11_method_34_code, prog_11_method_35_code, prog_11_method_36_code, prog_11_method_37_code, prog_11_method_38_code, prog_11_method_39_code, prog_11_method_40_code, prog_11_method_41_code, prog_11_method_42_code]
def pm_code_11 : List (ByteArray) := [prog_11_method_43_code, prog_11_method_44_code, prog_11_method_45_code, prog_11_method_46_code, prog_11_method_47_code, prog_11_method_48_code, prog_11_method_49_code, prog_11_method_50_code, prog_11_method_51_code, prog_11_method_52_code, prog_11_method_53_code, prog_11_method_54_code, prog_11_method_55_code, prog_11_method_56_code, prog_11_method_57_code, prog_11_method_58_code]
def pm_code_12 : List (ByteArray) := [prog_11_method_59_code, prog_11_method_60_code, prog_11_method_61_code, prog_11_method_62_code, prog_11_method_63_code, prog_11_method_64_code, prog_11_method_65_code, prog_11_method_66_code, prog_11_method_67_code, prog_11_method_68_code, prog_11_method_69_code, prog_11_method_70_code, prog_11_method_71_code, prog_11_method_72_code, prog_11_method_73_code, prog_11_method_74_code]
def pm_code_13 : List (ByteArray) := [prog_11_method_75_code, prog_11_method_76_code, prog_11_method_77_code, prog_15_method_123_code, code]
def pm_code (j : Nat) : ByteArray := (match j / 16 with
  | 0 => pm_code_0
  | 1 => pm_code_1
  | 2 => pm_code_2
  | 3 => pm_code_3
  | 4 => pm_code_4
  | 5 => pm_code_5
  | 6 => pm_code_6
  | 7 => pm_code_7
  | 8 => pm_code_8
  | 9 => pm_code_9
  | 10 => pm_code_10
  | 11 => pm_code_11
  | 12 => pm_code_12
  | 13 => pm_code_13
  | _ => []).getD (j % 16) ByteArray.empty
def pm_max_0 : List (Nat) := [2, 2, 3, 2, 3, 5, 6, 7, 2, 2, 2, 2, 2, 1, 3, 1]
def pm_max_1 : List (Nat) := [1, 1, 2, 1, 5, 4, 2, 1, 3, 2, 1, 1, 6, 2, 2, 2]
def pm_max_2 : List (Nat) := [3, 2, 3, 2, 2, 3, 5, 2, 7, 5, 8, 5, 10, 4, 5, 3]
def pm_max_3 : List (Nat) := [7, 7, 6, 3, 8, 7, 6, 5, 7, 8, 6, 5, 7, 1, 1, 1]
def pm_max_4 : List (Nat) := [2, 1, 2, 1, 4, 6, 3, 3, 4, 4, 3, 3, 2, 2, 1, 2]
def pm_max_5 : List (Nat) := [4, 4, 2, 3, 3, 3, 3, 3, 4, 5, 14, 3, 5, 3, 6, 5]
def pm_max_6 : List (Nat) := [6, 5, 5, 6, 3, 2, 5, 4, 5, 5, 7, 6, 7, 7, 5, 8]
def pm_max_7 : List (Nat) := [6, 2, 3, 3, 1, 1, 3, 4, 3, 2, 3, 3, 4, 5, 5, 5]
def pm_max_8 : List (Nat) := [6, 1, 4, 2, 3, 4, 1, 2, 5, 5, 4, 7, 7, 7, 8, 3]
def pm_max_9 : List (Nat) := [3, 4, 5, 4, 2, 3, 1, 1, 6, 7, 8, 6, 8, 4, 5, 6]
def pm_max_10 : List (Nat) := [8, 11, 12, 9, 4, 2, 14, 11, 10, 8, 2, 2, 1, 3, 2, 2]
def pm_max_11 : List (Nat) := [3, 3, 7, 4, 4, 2, 2, 8, 6, 7, 2, 4, 4, 5, 5, 6]
def pm_max_12 : List (Nat) := [15, 9, 7, 8, 3, 2, 1, 3, 2, 4, 5, 5, 8, 6, 4, 3]
def pm_max_13 : List (Nat) := [1, 5, 6, 3, 4]
def pm_max (j : Nat) : Nat := (match j / 16 with
  | 0 => pm_max_0
  | 1 => pm_max_1
  | 2 => pm_max_2
  | 3 => pm_max_3
  | 4 => pm_max_4
  | 5 => pm_max_5
  | 6 => pm_max_6
  | 7 => pm_max_7
  | 8 => pm_max_8
  | 9 => pm_max_9
  | 10 => pm_max_10
  | 11 => pm_max_11
  | 12 => pm_max_12
  | 13 => pm_max_13
  | _ => []).getD (j % 16) 0
def pm_np_0 : List (Nat) := [0, 1, 1, 0, 2, 2, 3, 3, 1, 1, 1, 1, 1, 0, 1, 0]
def pm_np_1 : List (Nat) := [0, 1, 1, 0, 2, 2, 0, 0, 1, 1, 0, 0, 4, 0, 1, 2]
def pm_np_2 : List (Nat) := [2, 1, 2, 1, 1, 2, 3, 1, 2, 3, 4, 4, 5, 2, 2, 2]
def pm_np_3 : List (Nat) := [4, 4, 4, 2, 4, 4, 5, 4, 4, 4, 5, 4, 4, 1, 0, 0]
def pm_np_4 : List (Nat) := [1, 0, 0, 0, 2, 5, 2, 2, 2, 3, 1, 2, 1, 1, 0, 1]
def pm_np_5 : List (Nat) := [2, 2, 1, 2, 1, 1, 1, 1, 1, 1, 3, 2, 1, 2, 2, 2]
def pm_np_6 : List (Nat) := [2, 2, 2, 2, 2, 1, 3, 3, 2, 3, 3, 3, 3, 3, 4, 3]
def pm_np_7 : List (Nat) := [3, 1, 1, 2, 0, 0, 0, 1, 2, 0, 1, 2, 1, 3, 1, 3]
def pm_np_8 : List (Nat) := [3, 0, 2, 0, 2, 3, 0, 1, 4, 4, 3, 4, 4, 4, 2, 1]
def pm_np_9 : List (Nat) := [1, 1, 3, 1, 0, 2, 0, 1, 2, 4, 4, 2, 4, 3, 3, 3]
def pm_np_10 : List (Nat) := [6, 6, 6, 7, 3, 0, 1, 2, 1, 5, 1, 1, 0, 1, 0, 0]
def pm_np_11 : List (Nat) := [2, 2, 4, 3, 3, 1, 1, 2, 3, 1, 1, 0, 3, 3, 4, 1]
def pm_np_12 : List (Nat) := [5, 4, 1, 0, 1, 1, 0, 2, 1, 3, 4, 1, 1, 1, 1, 1]
def pm_np_13 : List (Nat) := [0, 0, 2, 2, 1]
def pm_np (j : Nat) : Nat := (match j / 16 with
  | 0 => pm_np_0
  | 1 => pm_np_1
  | 2 => pm_np_2
  | 3 => pm_np_3
  | 4 => pm_np_4
  | 5 => pm_np_5
  | 6 => pm_np_6
  | 7 => pm_np_7
  | 8 => pm_np_8
  | 9 => pm_np_9
  | 10 => pm_np_10
  | 11 => pm_np_11
  | 12 => pm_np_12
  | 13 => pm_np_13
  | _ => []).getD (j % 16) 0
def pm_kd_0 : List (Nat) := [2, 1, 1, 1, 1, 1, 1, 1, 1, 1, 1, 1, 1, 1, 1, 1]
def pm_kd_1 : List (Nat) := [1, 0, 1, 1, 1, 1, 1, 2, 1, 1, 2, 1, 1, 1, 1, 0]
def pm_kd_2 : List (Nat) := [1, 1, 1, 1, 1, 1, 1, 1, 1, 1, 1, 1, 1, 1, 1, 1]
def pm_kd_3 : List (Nat) := [1, 1, 1, 1, 1, 1, 1, 1, 1, 1, 1, 1, 1, 0, 2, 1]
def pm_kd_4 : List (Nat) := [1, 1, 1, 2, 1, 1, 1, 1, 1, 2, 1, 1, 1, 1, 1, 1]
def pm_kd_5 : List (Nat) := [1, 1, 1, 1, 1, 1, 1, 1, 1, 1, 1, 1, 1, 1, 1, 1]
def pm_kd_6 : List (Nat) := [1, 1, 1, 1, 2, 1, 1, 1, 1, 1, 1, 1, 1, 1, 1, 1]
def pm_kd_7 : List (Nat) := [1, 2, 1, 1, 1, 1, 1, 1, 1, 1, 1, 1, 1, 1, 1, 1]
def pm_kd_8 : List (Nat) := [1, 2, 1, 1, 1, 1, 2, 1, 1, 1, 1, 1, 1, 1, 1, 1]
def pm_kd_9 : List (Nat) := [1, 1, 1, 1, 1, 1, 1, 0, 1, 1, 1, 1, 1, 1, 1, 1]
def pm_kd_10 : List (Nat) := [1, 1, 1, 1, 1, 1, 1, 1, 1, 1, 1, 1, 1, 1, 1, 1]
def pm_kd_11 : List (Nat) := [1, 1, 1, 1, 1, 1, 1, 1, 1, 1, 1, 1, 1, 1, 1, 1]
def pm_kd_12 : List (Nat) := [1, 1, 1, 1, 1, 1, 1, 1, 1, 1, 1, 1, 1, 1, 1, 1]
def pm_kd_13 : List (Nat) := [1, 1, 1, 0, 0]
def pm_kd (j : Nat) : Nat := (match j / 16 with
  | 0 => pm_kd_0
  | 1 => pm_kd_1
  | 2 => pm_kd_2
  | 3 => pm_kd_3
  | 4 => pm_kd_4
  | 5 => pm_kd_5
  | 6 => pm_kd_6
  | 7 => pm_kd_7
  | 8 => pm_kd_8
  | 9 => pm_kd_9
  | 10 => pm_kd_10
  | 11 => pm_kd_11
  | 12 => pm_kd_12
  | 13 => pm_kd_13
  | _ => []).getD (j % 16) 0
def pm_ow_0 : List (Nat) := [0, 0, 0, 0, 0, 0, 0, 0, 0, 0, 0, 0, 0, 0, 0, 0]
def pm_ow_1 : List (Nat) := [0, 0, 0, 0, 0, 0, 0, 1, 1, 1, 2, 2, 2, 2, 2, 2]
def pm_ow_2 : List (Nat) := [2, 2, 2, 2, 2, 2, 2, 2, 2, 2, 2, 2, 2, 2, 2, 2]
def pm_ow_3 : List (Nat) := [2, 2, 2, 2, 2, 2, 2, 2, 2, 2, 2, 2, 2, 2, 3, 3]
def pm_ow_4 : List (Nat) := [3, 3, 3, 4, 4, 4, 4, 4, 4, 5, 5, 5, 5, 5, 5, 5]
def pm_ow_5 : List (Nat) := [5, 5, 5, 5, 5, 5, 5, 5, 5, 5, 5, 5, 5, 5, 5, 5]
def pm_ow_6 : List (Nat) := [5, 5, 5, 5, 6, 6, 6, 6, 6, 6, 6, 6, 6, 6, 6, 6]
def pm_ow_7 : List (Nat) := [6, 7, 7, 7, 7, 7, 7, 7, 7, 7, 7, 7, 7, 7, 7, 7]
def pm_ow_8 : List (Nat) := [7, 8, 8, 8, 8, 8, 9, 9, 9, 9, 9, 9, 9, 9, 9, 9]
def pm_ow_9 : List (Nat) := [9, 9, 9, 9, 9, 9, 9, 9, 9, 9, 9, 9, 9, 9, 9, 9]
def pm_ow_10 : List (Nat) := [9, 9, 9, 9, 9, 9, 9, 9, 9, 9, 9, 9, 9, 9, 9, 9]
def pm_ow_11 : List (Nat) := [9, 9, 9, 9, 9, 9, 9, 9, 9, 9, 9, 9, 9, 9, 9, 9]
def pm_ow_12 : List (Nat) := [9, 9, 9, 9, 9, 9, 9, 9, 9, 9, 9, 9, 9, 9, 9, 9]
def pm_ow_13 : List (Nat) := [9, 9, 9, 11, 10]
def pm_ow (j : Nat) : Nat := (match j / 16 with
  | 0 => pm_ow_0
  | 1 => pm_ow_1
  | 2 => pm_ow_2
  | 3 => pm_ow_3
  | 4 => pm_ow_4
  | 5 => pm_ow_5
  | 6 => pm_ow_6
  | 7 => pm_ow_7
  | 8 => pm_ow_8
  | 9 => pm_ow_9
  | 10 => pm_ow_10
  | 11 => pm_ow_11
  | 12 => pm_ow_12
  | 13 => pm_ow_13
  | _ => []).getD (j % 16) 0
def pm_mc_0 : List (Nat) := [0, 0, 0, 0, 0, 0, 0, 0, 0, 0, 0, 0, 0, 0, 0, 0]
def pm_mc_1 : List (Nat) := [0, 0, 0, 0, 0, 0, 0, 1, 1, 1, 2, 2, 2, 2, 2, 2]
def pm_mc_2 : List (Nat) := [2, 2, 2, 2, 2, 2, 2, 2, 2, 2, 2, 2, 2, 2, 2, 2]
def pm_mc_3 : List (Nat) := [2, 2, 2, 2, 2, 2, 2, 2, 2, 2, 2, 2, 2, 2, 3, 3]
def pm_mc_4 : List (Nat) := [3, 3, 3, 4, 4, 4, 4, 4, 4, 5, 5, 5, 5, 5, 5, 5]
def pm_mc_5 : List (Nat) := [5, 5, 5, 5, 5, 5, 5, 5, 5, 5, 5, 5, 5, 5, 5, 5]
def pm_mc_6 : List (Nat) := [5, 5, 5, 5, 6, 6, 6, 6, 6, 6, 6, 6, 6, 6, 6, 6]
def pm_mc_7 : List (Nat) := [6, 7, 7, 7, 7, 7, 7, 7, 7, 7, 7, 7, 7, 7, 7, 7]
def pm_mc_8 : List (Nat) := [7, 8, 8, 8, 8, 8, 9, 9, 9, 9, 9, 9, 9, 9, 9, 9]
def pm_mc_9 : List (Nat) := [9, 9, 9, 9, 9, 9, 9, 9, 9, 9, 9, 9, 9, 9, 9, 9]
def pm_mc_10 : List (Nat) := [9, 9, 9, 9, 9, 9, 9, 9, 9, 9, 9, 9, 9, 9, 9, 9]
def pm_mc_11 : List (Nat) := [9, 9, 9, 9, 9, 9, 9, 9, 9, 9, 9, 9, 9, 9, 9, 9]
def pm_mc_12 : List (Nat) := [9, 9, 9, 9, 9, 9, 9, 9, 9, 9, 9, 9, 9, 9, 9, 9]
def pm_mc_13 : List (Nat) := [9, 9, 9, 0, 0]
def pm_mc (j : Nat) : Nat := (match j / 16 with
  | 0 => pm_mc_0
  | 1 => pm_mc_1
  | 2 => pm_mc_2
  | 3 => pm_mc_3
  | 4 => pm_mc_4
  | 5 => pm_mc_5
  | 6 => pm_mc_6
  | 7 => pm_mc_7
  | 8 => pm_mc_8
  | 9 => pm_mc_9
  | 10 => pm_mc_10
  | 11 => pm_mc_11
  | 12 => pm_mc_12
  | 13 => pm_mc_13
  | _ => []).getD (j % 16) 0
def pm_rk_0 : List (Nat) := [0, 2, 1, 1, 1, 1, 1, 1, 1, 1, 1, 1, 2, 2, 1, 1]
def pm_rk_1 : List (Nat) := [1, 2, 2, 2, 2, 1, 0, 0, 0, 0, 0, 0, 1, 2, 1, 2]
def pm_rk_2 : List (Nat) := [2, 2, 1, 2, 1, 0, 0, 1, 1, 2, 1, 1, 1, 1, 1, 2]
def pm_rk_3 : List (Nat) := [2, 2, 2, 2, 1, 1, 1, 1, 1, 1, 1, 0, 0, 4, 0, 0]
def pm_rk_4 : List (Nat) := [0, 2, 1, 0, 1, 0, 2, 1, 1, 0, 1, 0, 0, 0, 4, 2]
def pm_rk_5 : List (Nat) := [4, 1, 0, 0, 1, 1, 1, 1, 1, 1, 1, 1, 1, 1, 1, 1]
def pm_rk_6 : List (Nat) := [1, 1, 1, 1, 0, 0, 1, 1, 1, 1, 1, 1, 1, 1, 1, 1]
def pm_rk_7 : List (Nat) := [1, 0, 0, 0, 2, 0, 0, 1, 0, 2, 0, 2, 0, 1, 0, 0]
def pm_rk_8 : List (Nat) := [0, 0, 1, 2, 1, 0, 0, 2, 0, 1, 1, 2, 2, 2, 2, 1]
def pm_rk_9 : List (Nat) := [1, 1, 1, 1, 2, 1, 1, 1, 1, 0, 2, 0, 1, 1, 1, 1]
def pm_rk_10 : List (Nat) := [0, 2, 2, 1, 0, 1, 0, 0, 0, 1, 2, 2, 0, 1, 0, 1]
def pm_rk_11 : List (Nat) := [1, 1, 1, 1, 1, 1, 0, 0, 1, 1, 1, 0, 0, 2, 2, 2]
def pm_rk_12 : List (Nat) := [2, 2, 2, 1, 1, 2, 2, 0, 0, 1, 0, 1, 0, 1, 1, 1]
def pm_rk_13 : List (Nat) := [1, 1, 1, 3, 2]
def pm_rk (j : Nat) : Nat := (match j / 16 with
  | 0 => pm_rk_0
  | 1 => pm_rk_1
  | 2 => pm_rk_2
  | 3 => pm_rk_3
  | 4 => pm_rk_4
  | 5 => pm_rk_5
  | 6 => pm_rk_6
  | 7 => pm_rk_7
  | 8 => pm_rk_8
  | 9 => pm_rk_9
  | 10 => pm_rk_10
  | 11 => pm_rk_11
  | 12 => pm_rk_12
  | 13 => pm_rk_13
  | _ => []).getD (j % 16) 0
end
section
-- from 05
abbrev pm_S : Type := (Nat → Nat → Int32) × (Nat → Nat → Nat) × (Nat → Nat) × (Nat → Nat) × Nat × Nat
abbrev pm_L : Type := List (Option Value)
abbrev pm_X : Type := Option (Nat × (Nat → Int32))
abbrev pm_R : Type := Option (Option Value × pm_S)
abbrev pm_O : Type := Nat → List Value → pm_S → pm_R
abbrev pm_N : Type := Option (Nat × pm_L × List Value × pm_S)
def pm_u {α : Type} (f : Nat → α) (p : Nat) (v : α) : Nat → α := fun q => if q = p then v else f q
def pm_ld (ls : pm_L) (i : Nat) : Option Value := match ls[i]? with
  | some (some (.int x)) => some (.int x)
  | some (some (.ref x)) => some (.ref x)
  | _ => none
def pm_vc (v : Value) : Bool := match v with
  | .int _ => true
  | .ref _ => true
  | .null => true
  | _ => false
def pm_bin (i : Jvm.ClassFile.Instr) (x y : Int32) : Option Int32 := match i with
  | .iadd => some (x + y)
  | .isub => some (x - y)
  | .imul => some (x * y)
  | .iand => some (x &&& y)
  | .ior => some (x ||| y)
  | .ixor => some (x ^^^ y)
  | .ishl => some (x <<< (y &&& 31))
  | .ishr => some (x >>> (y &&& 31))
  | .iushr => some ((x.toUInt32 >>> (y.toUInt32 &&& Int32.toUInt32 31)).toInt32)
  | .idiv => if y = 0 then none else some (x / y)
  | .irem => if y = 0 then none else some (x - x / y * y)
  | _ => none
def pm_cmp (c : Jvm.ClassFile.Cond) (x y : Int32) : Bool := match c with
  | .eq => decide (x = y)
  | .ne => !decide (x = y)
  | .lt => decide (x < y)
  | .ge => decide (y ≤ x)
  | .gt => decide (y < x)
  | .le => decide (x ≤ y)
def pm_tgt (pc : Nat) (off : Int) : Nat := ((pc : Int) + off).toNat
def pm_tok (pc : Nat) (off : Int) : Bool := decide (0 ≤ (pc : Int) + off)
def pm_rv (r : Nat) : Value := if r = 0 then .null else .ref r
def pm_fi (k : Nat) (x : Int32) : Bool := match k with
  | 0 => true
  | 1 => decide (x = 0) || decide (x = 1)
  | _ => false
def pm_inb (i : Int32) (n : Nat) : Bool := decide (¬ i < 0) && decide (i.toNatClampNeg < n)
def pm_stk (i : Jvm.ClassFile.Instr) (st : List Value) : Option (List Value) := match i with
  | .iconst k => some (.int (Int32.ofInt k) :: st)
  | .dup => match st with
    | a :: st => if pm_vc a then some (a :: a :: st) else none
    | _ => none
  | .pop => match st with
    | a :: st => if pm_vc a then some st else none
    | _ => none
  | .dup_x1 => match st with
    | a :: b :: st => if pm_vc a && pm_vc b then some (a :: b :: a :: st) else none
    | _ => none
  | .dup_x2 => match st with
    | a :: b :: d :: st => if pm_vc a && (pm_vc b && pm_vc d) then some (a :: b :: d :: a :: st) else none
    | _ => none
  | .dup2 => match st with
    | a :: b :: st => if pm_vc a && pm_vc b then some (a :: b :: a :: b :: st) else none
    | _ => none
  | .ineg => match st with
    | .int x :: st => some (.int (-x) :: st)
    | _ => none
  | .i2c => match st with
    | .int x :: st => some (.int ((x.toUInt32 % 65536).toInt32) :: st)
    | _ => none
  | .aconst_null => some (.null :: st)
  | _ => match st with
    | .int y :: .int x :: st => match pm_bin i x y with
      | some z => some (.int z :: st)
      | none => none
    | _ => none
def pm_jmp (pc len : Nat) (i : Jvm.ClassFile.Instr) (st : List Value) : Option (Nat × List Value) := match i with
  | .ifCond c off => match st with
    | .int x :: st => if len = 3 && pm_tok pc off then some (if pm_cmp c x 0 then (pm_tgt pc off, st) else (pc + 3, st)) else none
    | _ => none
  | .if_icmp c off => match st with
    | .int y :: .int x :: st => if len = 3 && pm_tok pc off then some (if pm_cmp c x y then (pm_tgt pc off, st) else (pc + 3, st)) else none
    | _ => none
  | .goto off => if len = 3 && pm_tok pc off then some (pm_tgt pc off, st) else none
  | .tableswitch dflt lo hi offs => match st with
    | .int x :: st => if decide (x.toInt < lo) || decide (hi < x.toInt) then (if pm_tok pc dflt then some (pm_tgt pc dflt, st) else none) else (match offs[(x.toInt - lo).toNat]? with
      | some off => if pm_tok pc off then some (pm_tgt pc off, st) else none
      | none => none)
    | _ => none
  | .lookupswitch dflt ps => match st with
    | .int x :: st => if (ps.toList.zip (ps.toList.drop 1)).all (fun (a, next) => a.1 < next.1) && pm_tok pc (Op.lookupswitch.offset ps.toList dflt x.toInt) then some (pm_tgt pc (Op.lookupswitch.offset ps.toList dflt x.toInt), st) else none
    | _ => none
  | _ => none
def pm_loc (i : Jvm.ClassFile.Instr) (ls : pm_L) (st : List Value) : Option (Nat × Value × List Value) := match i with
  | .istore k => match st with
    | .int x :: st => some (k, .int x, st)
    | _ => none
  | .istore_n k => match st with
    | .int x :: st => some (k.val, .int x, st)
    | _ => none
  | .astore k => match st with
    | .ref x :: st => some (k, .ref x, st)
    | _ => none
  | .astore_n k => match st with
    | .ref x :: st => some (k.val, .ref x, st)
    | _ => none
  | .iinc k n => match pm_ld ls k with
    | some (.int x) => some (k, .int (x + Int32.ofInt n), st)
    | _ => none
  | _ => none
def pm_rd (X : pm_X) (o : Nat) (i : Jvm.ClassFile.Instr) (ls : pm_L) (st : List Value) (σ : pm_S) : Option (Value × List Value) := match i with
  | .bipush k => some (.int (Int8.ofInt k).toInt32, st)
  | .sipush k => some (.int (Int16.ofInt k).toInt32, st)
  | .ldc k => match pm_ldc o k with
    | some v => some (.int v, st)
    | none => none
  | .iload k => match pm_ld ls k with
    | some (.int x) => some (.int x, st)
    | _ => none
  | .iload_n k => match pm_ld ls k.val with
    | some (.int x) => some (.int x, st)
    | _ => none
  | .aload k => match pm_ld ls k with
    | some (.ref x) => some (.ref x, st)
    | _ => none
  | .aload_n k => match pm_ld ls k.val with
    | some (.ref x) => some (.ref x, st)
    | _ => none
  | .getfield k => match st with
    | .ref p :: st => match pm_fld o k with
      | some (c, f) => if decide (1 ≤ p) && (decide (p ≤ σ.2.2.2.2.1) && decide (σ.2.2.1 p = 10 + c)) then some (if pm_fk c f = 3 then pm_rv (σ.2.1 p f) else .int (σ.1 p f), st) else none
      | none => none
    | _ => none
  | .iaload => match st with
    | .int j :: .ref p :: st => if p = 0 then (match X with
      | some x => if pm_inb j x.1 then some (.int (x.2 j.toNatClampNeg), st) else none
      | none => none) else if decide (p ≤ σ.2.2.2.2.1) && (decide (σ.2.2.1 p = 0) && pm_inb j (σ.2.2.2.1 p)) then some (.int (σ.1 p j.toNatClampNeg), st) else none
    | _ => none
  | .caload => match st with
    | .int j :: .ref p :: st => if decide (1 ≤ p) && (decide (p ≤ σ.2.2.2.2.1) && (decide (σ.2.2.1 p = 1) && pm_inb j (σ.2.2.2.1 p))) then some (.int (σ.1 p j.toNatClampNeg), st) else none
    | _ => none
  | .baload => match st with
    | .int j :: .ref p :: st => if decide (1 ≤ p) && (decide (p ≤ σ.2.2.2.2.1) && (decide (σ.2.2.1 p = 2) && pm_inb j (σ.2.2.2.1 p))) then some (.int (σ.1 p j.toNatClampNeg), st) else none
    | _ => none
  | .aaload => match st with
    | .int j :: .ref p :: st => if decide (1 ≤ p) && (decide (p ≤ σ.2.2.2.2.1) && (decide (σ.2.2.1 p = 3) && pm_inb j (σ.2.2.2.1 p))) then some (pm_rv (σ.2.1 p j.toNatClampNeg), st) else none
    | _ => none
  | .arraylength => match st with
    | .ref p :: st => if p = 0 then (match X with
      | some x => some (.int (Int32.ofNat x.1), st)
      | none => none) else if decide (p ≤ σ.2.2.2.2.1) && decide (σ.2.2.1 p < pm_nk) then some (.int (Int32.ofNat (σ.2.2.2.1 p)), st) else none
    | _ => none
  | _ => none
def pm_wr (o kd : Nat) (i : Jvm.ClassFile.Instr) (st : List Value) (σ : pm_S) : Option (pm_S × List Value) := match i with
  | .putfield k => match st with
    | .int x :: .ref p :: st => match pm_fld o k with
      | some (c, f) => if decide (1 ≤ p) && (decide (p ≤ σ.2.2.2.2.1) && (decide (σ.2.2.1 p = 10 + c) && (pm_fi (pm_fk c f) x && (!pm_fin c f || (decide (kd = 2) && pm_own o c))))) then some ((pm_u σ.1 p (upd (σ.1 p) f x), σ.2), st) else none
      | none => none
    | .ref x :: .ref p :: st => match pm_fld o k with
      | some (c, f) => if decide (1 ≤ p) && (decide (p ≤ σ.2.2.2.2.1) && (decide (σ.2.2.1 p = 10 + c) && (decide (1 ≤ x) && (decide (pm_fk c f = 3) && (!pm_fin c f || (decide (kd = 2) && pm_own o c)))))) then some ((σ.1, pm_u σ.2.1 p (pm_u (σ.2.1 p) f x), σ.2.2), st) else none
      | none => none
    | _ => none
  | .iastore => match st with
    | .int x :: .int j :: .ref p :: st => if decide (1 ≤ p) && (decide (p ≤ σ.2.2.2.2.1) && (decide (σ.2.2.1 p = 0) && pm_inb j (σ.2.2.2.1 p))) then some ((pm_u σ.1 p (upd (σ.1 p) j.toNatClampNeg x), σ.2), st) else none
    | _ => none
  | .castore => match st with
    | .int x :: .int j :: .ref p :: st => if decide (1 ≤ p) && (decide (p ≤ σ.2.2.2.2.1) && (decide (σ.2.2.1 p = 1) && pm_inb j (σ.2.2.2.1 p))) then some ((pm_u σ.1 p (upd (σ.1 p) j.toNatClampNeg (vp_nar .char x)), σ.2), st) else none
    | _ => none
  | .bastore => match st with
    | .int x :: .int j :: .ref p :: st => if decide (1 ≤ p) && (decide (p ≤ σ.2.2.2.2.1) && (decide (σ.2.2.1 p = 2) && pm_inb j (σ.2.2.2.1 p))) then some ((pm_u σ.1 p (upd (σ.1 p) j.toNatClampNeg (vp_nar .boolean x)), σ.2), st) else none
    | _ => none
  | .aastore => match st with
    | .ref x :: .int j :: .ref p :: st => if decide (1 ≤ p) && (decide (p ≤ σ.2.2.2.2.1) && (decide (σ.2.2.1 p = 3) && (pm_inb j (σ.2.2.2.1 p) && (decide (1 ≤ x) && (decide (x ≤ σ.2.2.2.2.1) && decide (σ.2.2.1 x = 10 + pm_qc)))))) then some ((σ.1, pm_u σ.2.1 p (pm_u (σ.2.1 p) j.toNatClampNeg x), σ.2.2), st) else none
    | _ => none
  | _ => none
def pm_mk (o : Nat) (i : Jvm.ClassFile.Instr) (st : List Value) : Option (Nat × Nat × Nat × List Value) := match i with
  | .new k => match pm_new o k with
    | some c => some (10 + c, 0, pm_nf c, st)
    | none => none
  | .newarray .int => match st with
    | .int n :: st => if decide (¬ n < 0) && decide (n.toNatClampNeg ≤ 100000) then some (0, n.toNatClampNeg, n.toNatClampNeg, st) else none
    | _ => none
  | .newarray .char => match st with
    | .int n :: st => if decide (¬ n < 0) && decide (n.toNatClampNeg ≤ 100000) then some (1, n.toNatClampNeg, n.toNatClampNeg, st) else none
    | _ => none
  | .newarray .boolean => match st with
    | .int n :: st => if decide (¬ n < 0) && decide (n.toNatClampNeg ≤ 100000) then some (2, n.toNatClampNeg, n.toNatClampNeg, st) else none
    | _ => none
  | .anewarray k => match st with
    | .int n :: st => if pm_anw o k && (decide (¬ n < 0) && decide (n.toNatClampNeg ≤ 100000)) then some (3, n.toNatClampNeg, n.toNatClampNeg, st) else none
    | _ => none
  | _ => none
def pm_mkS (σ : pm_S) (k len sl : Nat) : pm_S := (pm_u σ.1 (σ.2.2.2.2.1 + 1) (fun _ => 0), pm_u σ.2.1 (σ.2.2.2.2.1 + 1) (fun _ => 0), pm_u σ.2.2.1 (σ.2.2.2.2.1 + 1) k, pm_u σ.2.2.2.1 (σ.2.2.2.2.1 + 1) len, σ.2.2.2.2.1 + 1, σ.2.2.2.2.2 + sl)
def pm_len (i : Jvm.ClassFile.Instr) : Nat := match i with
  | .bipush _ => 2
  | .sipush _ => 3
  | .ldc _ => 2
  | .iload _ => 2
  | .aload _ => 2
  | .istore _ => 2
  | .astore _ => 2
  | .iinc _ _ => 3
  | .getfield _ => 3
  | .putfield _ => 3
  | .new _ => 3
  | .newarray _ => 2
  | .anewarray _ => 3
  | .invokevirtual _ => 3
  | .invokespecial _ => 3
  | .invokestatic _ => 3
  | _ => 1
def pm_jdk (o : Nat) (i : Jvm.ClassFile.Instr) (st : List Value) (σ : pm_S) : Option (pm_S × List Value) := match i with
  | .invokespecial k => if pm_bi o k = 1 then (match st with
    | .ref _ :: st => if decide (st.length ≤ 8) && st.all pm_vc then some (σ, st) else none
    | _ => none) else none
  | .invokestatic k => if pm_bi o k = 2 then (match st with
    | .int y :: .int x :: st => if decide (st.length ≤ 8) && st.all pm_vc then some (σ, .int (if y < x then y else x) :: st) else none
    | _ => none) else if pm_bi o k = 3 then (match st with
    | .int n :: .int dp :: .ref q :: .int sp :: .ref p :: st => if decide (st.length ≤ 8) && (st.all pm_vc && (decide (1 ≤ p) && (decide (p ≤ σ.2.2.2.2.1) && (decide (σ.2.2.1 p = 0) && (decide (1 ≤ q) && (decide (q ≤ σ.2.2.2.2.1) && (decide (σ.2.2.1 q = 0) && (decide (¬ sp < 0) && (decide (¬ dp < 0) && (decide (¬ n < 0) && (decide (sp.toNatClampNeg + n.toNatClampNeg ≤ σ.2.2.2.1 p) && decide (dp.toNatClampNeg + n.toNatClampNeg ≤ σ.2.2.2.1 q)))))))))))) then some ((pm_u σ.1 q (va_cpy (σ.1 p) (σ.1 q) sp.toNatClampNeg dp.toNatClampNeg n.toNatClampNeg), σ.2), st) else none
    | _ => none) else none
  | _ => none
def pm_step (X : pm_X) (o kd pc len : Nat) (i : Jvm.ClassFile.Instr) (ls : pm_L) (st : List Value) (σ : pm_S) : pm_N :=
  match pm_jmp pc len i st with
  | some (t, st') => some (t, ls, st', σ)
  | none => if len = pm_len i then (match pm_rd X o i ls st σ with
    | some (v, st') => some (pc + pm_len i, ls, v :: st', σ)
    | none => match pm_loc i ls st with
      | some (k, v, st') => if k < ls.length then some (pc + pm_len i, ls.set k (some v), st', σ) else none
      | none => match pm_wr o kd i st σ with
        | some (σ', st') => some (pc + pm_len i, ls, st', σ')
        | none => match pm_mk o i st with
          | some (k, n, sl, st') => some (pc + pm_len i, ls, .ref (σ.2.2.2.2.1 + 1) :: st', pm_mkS σ k n sl)
          | none => match pm_jdk o i st σ with
            | some (σ', st') => some (pc + pm_len i, ls, st', σ')
            | none => match pm_stk i st with
              | some st' => some (pc + pm_len i, ls, st', σ)
              | none => none) else none
def pm_inv (o : Nat) (i : Jvm.ClassFile.Instr) (st : List Value) (σ : pm_S) : Option (Nat × List Value × List Value) := match i with
  | .invokevirtual k => match pm_mth o k with
    | some j => match st.drop (pm_np j) with
      | .ref p :: rest => if decide (pm_kd j = 1) && (decide (pm_np j ≤ st.length) && (decide (1 ≤ p) && (decide (p ≤ σ.2.2.2.2.1) && (decide (σ.2.2.1 p = 10 + pm_mc j) && (decide (rest.length ≤ 8) && st.all pm_vc))))) then some (j, .ref p :: (st.take (pm_np j)).reverse, rest) else none
      | _ => none
    | none => none
  | .invokespecial k => match pm_mth o k with
    | some j => match st.drop (pm_np j) with
      | .ref p :: rest => if decide (pm_kd j = 2) && (decide (pm_np j ≤ st.length) && (decide (1 ≤ p) && (decide (rest.length ≤ 8) && st.all pm_vc))) then some (j, .ref p :: (st.take (pm_np j)).reverse, rest) else none
      | _ => none
    | none => none
  | .invokestatic k => match pm_mth o k with
    | some j => if decide (pm_kd j = 0) && (decide (pm_np j ≤ st.length) && (decide ((st.drop (pm_np j)).length ≤ 8) && st.all pm_vc)) then some (j, (st.take (pm_np j)).reverse, st.drop (pm_np j)) else none
    | none => none
  | _ => none
def pm_ret (rk : Nat) (i : Jvm.ClassFile.Instr) (st : List Value) : Option (Option Value) := match i with
  | .return_ => if rk = 0 then (match st with
    | [] => some none
    | _ => none) else none
  | .ireturn => if rk = 1 then (match st with
    | [.int x] => some (some (.int x))
    | _ => none) else if rk = 2 then (match st with
    | [.int x] => if decide (x = 0) || decide (x = 1) then some (some (.int x)) else none
    | _ => none) else if rk = 4 then (match st with
    | [.int x] => if decide (¬ x < 0) && decide (x ≤ 65535) then some (some (.int x)) else none
    | _ => none) else none
  | .areturn => if rk = 3 then (match st with
    | [.ref x] => some (some (.ref x))
    | _ => none) else none
  | _ => none
def pm_exec (X : pm_X) (C : pm_O) : Nat → Nat → Nat → pm_L → List Value → pm_S → pm_R
  | 0, _, _, _, _, _ => none
  | f + 1, mi, pc, ls, st, σ => match decode (pm_code mi) pc with
    | .ok (i, len) => match pm_ret (pm_rk mi) i st with
      | some r => if len = 1 then some (r, σ) else none
      | none => match pm_inv (pm_ow mi) i st σ with
        | some (j, as, rest) => if len = 3 then (match C j as σ with
          | some (r, σ') => pm_exec X C f mi (pc + 3) ls (r.toList ++ rest) σ'
          | none => none) else none
        | none => match pm_step X (pm_ow mi) (pm_kd mi) pc len i ls st σ with
          | some (pc', ls', st', σ') => pm_exec X C f mi pc' ls' st' σ'
          | none => none
    | .error _ => none
def pm_in (j : Nat) (as : List Value) : pm_L := as.map some ++ List.replicate (pm_max j - as.length) none
def pm_call (F : Nat) : Nat → pm_O
  | 0 => fun _ _ _ => none
  | d + 1 => fun j as σ => if decide (j < pm_cnt) && (decide (as.length ≤ pm_max j) && as.all pm_vc) then pm_exec none (pm_call F d) F j 0 (pm_in j as) [] σ else none
end
section
-- from 08
def pm_le (σ σ' : pm_S) : Prop := σ.2.2.2.2.1 ≤ σ'.2.2.2.2.1 ∧ σ.2.2.2.2.2 ≤ σ'.2.2.2.2.2
theorem pm_le.rfl (σ : pm_S) : pm_le σ σ := by sorry
theorem pm_le.trans {σ σ1 σ' : pm_S} (h1 : pm_le σ σ1) (h2 : pm_le σ1 σ') : pm_le σ σ' := by sorry
section PmV
variable {p : Program} {l : Launch} {e : Env} {R : Room} {s : State} {m : MethodId} {args : Array Value} {below : List Frame} {meth : Method} {c : Code} {H : Heap} {locs : List Loc} {cells slots : Nat} {Q : State → Prop}
variable {D : va_G} {kA : Nat → ClassId} {b : Nat} {X : pm_X} {HL : Heap} {cc : ByteArray} {pc : Nat} {la : Array Slot}
end PmV
end
section
-- from 09
def pm_Wc (d j : Nat) (as : List Value) (σ : pm_S) (Q : Option Value → pm_S → Prop) : Prop := ∃ (F : Nat) (r : Option Value) (σ' : pm_S), pm_call F d j as σ = some (r, σ') ∧ Q r σ'
section PmR
variable {X : pm_X} {d mi pc len : Nat} {ls : pm_L} {st : List Value} {σ : pm_S} {Q Q' : Option Value → pm_S → Prop} {i : Jvm.ClassFile.Instr}
end PmR

end
section
-- from 10
def pm_Ar (K L : Nat → Nat) (n p k z : Nat) : Prop := 1 ≤ p ∧ p ≤ n ∧ K p = k ∧ L p = z
section PmR2
variable {X : pm_X} {d mi pc : Nat} {ls : pm_L} {st : List Value} {σ : pm_S} {Q : Option Value → pm_S → Prop} {I : Nat → Nat → Int32} {Rf : Nat → Nat → Nat} {K L : Nat → Nat} {n s : Nat}
end PmR2

end
section
-- from 12
section PmR3
variable {X : pm_X} {d mi pc : Nat} {ls : pm_L} {st : List Value} {σ : pm_S} {Q : Option Value → pm_S → Prop} {I : Nat → Nat → Int32} {Rf : Nat → Nat → Nat} {K L : Nat → Nat} {n s : Nat}
end PmR3
def pm_KT : List Nat := [0, 10, 1, 3, 11, 0, 12, 0, 0, 0, 0, 0, 0, 13, 1, 1, 14, 0, 0, 0, 0, 0, 0, 14, 0, 0, 0, 0, 0, 0, 11, 0, 11, 0, 11, 0, 11, 0, 15, 1, 1, 0, 16, 17, 0, 0, 0, 0, 0, 0, 0, 18, 0, 0, 0, 0, 19, 0, 0, 0, 0, 0, 0, 0, 0, 0, 0, 0, 0, 0, 0, 0, 2, 0, 0, 0, 0, 0, 2, 2, 0, 0, 0, 0, 0, 0, 0, 0, 0, 0, 0, 0, 0, 0, 0, 0, 0, 0, 0, 0]
def pm_LT : List Nat := [0, 0, 60, 4, 0, 16, 0, 64, 64, 64, 64, 64, 64, 0, 100, 100, 0, 60, 60, 60, 60, 60, 60, 0, 60, 60, 60, 60, 60, 60, 0, 16, 0, 16, 0, 16, 0, 16, 0, 24, 24, 24, 0, 0, 8, 8, 8, 8, 61, 61, 61, 0, 16, 16, 16, 16, 0, 60, 128, 128, 128, 128, 128, 128, 128, 128, 128, 128, 256, 256, 256, 256, 4, 18700, 900, 900, 900, 64, 64, 64, 1800, 4200, 600, 600, 600, 600, 600, 4000, 4000, 4000, 4000, 4000, 4000, 12000, 4000, 4000, 4000, 4000, 1600, 104]
def pm_RT : List (Nat × Nat × Nat) := [(1, 0, 2), (1, 1, 3), (1, 2, 4), (1, 3, 6), (1, 4, 13), (1, 5, 38), (1, 6, 42), (1, 7, 43), (3, 0, 30), (3, 1, 32), (3, 2, 34), (3, 3, 36), (4, 0, 5), (6, 5, 12), (13, 0, 14), (13, 1, 15), (16, 0, 17), (16, 1, 18), (16, 2, 19), (16, 3, 20), (16, 4, 21), (16, 5, 22), (23, 0, 24), (23, 1, 25), (23, 2, 26), (23, 3, 27), (23, 4, 28), (23, 5, 29), (30, 0, 31), (32, 0, 33), (34, 0, 35), (36, 0, 37), (38, 0, 6), (38, 1, 39), (38, 2, 40), (38, 3, 41), (38, 4, 2), (42, 0, 6), (43, 4, 48), (43, 5, 49), (43, 6, 50), (43, 7, 51), (56, 1, 57), (56, 3, 58), (56, 6, 59), (56, 7, 60), (56, 8, 61), (56, 9, 62), (56, 10, 63), (56, 12, 64), (56, 13, 65), (56, 14, 66), (56, 15, 67), (56, 17, 68), (56, 18, 69), (56, 19, 70), (56, 20, 71), (56, 21, 72), (56, 23, 73), (56, 25, 74), (56, 26, 75), (56, 27, 76), (56, 28, 77), (56, 30, 78), (56, 31, 79), (56, 35, 80), (56, 37, 81), (56, 38, 82), (56, 39, 83), (56, 40, 84), (56, 41, 85), (56, 42, 86), (56, 51, 87), (56, 52, 88), (56, 53, 89), (56, 55, 90), (56, 56, 91), (56, 57, 92), (56, 58, 93), (56, 60, 94), (56, 61, 95), (56, 62, 96), (56, 63, 97), (56, 64, 98), (56, 65, 99)]
def pm_G (Rf : Nat → Nat → Nat) (K L : Nat → Nat) (n : Nat) : Prop := 99 ≤ n ∧ (∀ p, p < 100 → K p = pm_KT.getD p 0) ∧ (∀ p, p < 100 → L p = pm_LT.getD p 0) ∧ ∀ x ∈ pm_RT, Rf x.1 x.2.1 = x.2.2
theorem pm_G.r {Rf : Nat → Nat → Nat} {K L : Nat → Nat} {n : Nat} (h : pm_G Rf K L n) {p f q : Nat} (hm : (p, f, q) ∈ pm_RT) : Rf p f = q := by sorry
end
section
-- from 20
def zI (a : Int) : Int32 := Int32.ofInt a
def R32 (a : Int) : Prop := -2147483648 ≤ a ∧ a < 2147483648
abbrev pm_M : Type := Nat → Int → Int
def zM (M : pm_M) : Nat → Nat → Int32 := fun p k => zI (M p (k : Int))
def mset (M : pm_M) (p : Nat) (i v : Int) : pm_M := fun q j => if q = p ∧ j = i then v else M q j
end
section
-- from 22
def lab (m : Int) : Nat := (m % 2 + m / 2 % 2 + m / 4 % 2).toNat
def ar (c : Int) : Nat := if c = 1 ∨ c = 2 then 2 else if 8 ≤ c ∧ c < 16 then lab (c - 8) else 0
def Row (M : pm_M) (r : Int) : Int → List Int → Prop
  | _, [] => True
  | j, c :: l => M 73 (17 * r + j) = c ∧ Row M r (j + 1) l
end
section
-- from 24
theorem Row.at {M : pm_M} {r : Int} : ∀ {l : List Int} {j : Int}, Row M r j l → ∀ k : Nat, k < l.length → M 73 (17 * r + j + k) = l.getD k 0 := by sorry
end
section
-- from 27
abbrev Ty : Type := Std.Format
def tTop : Ty := .tag 0 .nil
def tVar (k : Nat) : Ty := .tag (16 + k) .nil
def tFun (a b : Ty) : Ty := .tag 1 (.append a b)
def tAll (a b : Ty) : Ty := .tag 2 (.append a b)
def tRec (m : Nat) (x y z : Ty) : Ty := .tag (8 + m) (.append x (.append y z))
def flat : Ty → List Int
  | .tag c f => (c : Int) :: flat f
  | .append a b => flat a ++ flat b
  | _ => []
def isNil : Ty → Bool
  | .nil => true
  | _ => false
theorem isNil_eq {t : Ty} (h : isNil t = true) : t = .nil := by sorry
def bit (m k : Nat) : Bool := m / 2 ^ k % 2 == 1
def ok (d : Nat) : Ty → Bool
  | .tag c (.append x (.append y z)) => (decide (8 ≤ c) && decide (c < 16)) && ((if bit (c - 8) 0 then ok d x else isNil x) && ((if bit (c - 8) 1 then ok d y else isNil y) && (if bit (c - 8) 2 then ok d z else isNil z)))
  | .tag c (.append a b) => if c = 1 then ok d a && ok d b else if c = 2 then ok d a && ok (d + 1) b else false
  | .tag c .nil => decide (c = 0) || (decide (16 ≤ c) && decide (c < 16 + d))
  | _ => false
theorem ok_top (d : Nat) : ok d tTop = true := by sorry
theorem ok_var {d k : Nat} (h : k < d) : ok d (tVar k) = true := by sorry
theorem ok_fun {d : Nat} {a b : Ty} : ok d (tFun a b) = true ↔ ok d a = true ∧ ok d b = true := by sorry
theorem ok_all {d : Nat} {a b : Ty} : ok d (tAll a b) = true ↔ ok d a = true ∧ ok (d + 1) b = true := by sorry
def okl (d m k : Nat) (x : Ty) : Prop := if bit m k then ok d x = true else x = .nil
theorem ok_rec {d m : Nat} {x y z : Ty} (hm : m < 8) : ok d (tRec m x y z) = true ↔ okl d m 0 x ∧ okl d m 1 y ∧ okl d m 2 z := by sorry
theorem ok_cases {d : Nat} {t : Ty} (h : ok d t = true) : t = tTop ∨ (∃ k, k < d ∧ t = tVar k) ∨ (∃ a b, t = tFun a b ∧ ok d a = true ∧ ok d b = true) ∨ (∃ a b, t = tAll a b ∧ ok d a = true ∧ ok (d + 1) b = true) ∨ ∃ m x y z, m < 8 ∧ t = tRec m x y z ∧ okl d m 0 x ∧ okl d m 1 y ∧ okl d m 2 z := by sorry
theorem flat_top : flat tTop = [0] := by sorry
theorem flat_var (k : Nat) : flat (tVar k) = [((16 + k : Nat) : Int)] := by sorry
theorem flat_fun (a b : Ty) : flat (tFun a b) = 1 :: (flat a ++ flat b) := by sorry
theorem flat_all (a b : Ty) : flat (tAll a b) = 2 :: (flat a ++ flat b) := by sorry
theorem flat_rec (m : Nat) (x y z : Ty) : flat (tRec m x y z) = ((8 + m : Nat) : Int) :: (flat x ++ (flat y ++ flat z)) := by sorry
def lft (k b : Nat) : Ty → Ty
  | .tag c f => .tag (if 16 + k ≤ c then c + b else c) (lft k b f)
  | .append x y => .append (lft k b x) (lft k b y)
  | t => t
def lfc (k b : Nat) (c : Int) : Int := if 16 + (k : Int) ≤ c then c + b else c
theorem flat_lft (k b : Nat) : ∀ t : Ty, flat (lft k b t) = (flat t).map (lfc k b) := by sorry
end
section
-- from 29
def Ctx (M : pm_M) (u x : Int) : Int → List Ty → Prop
  | c, [] => c = -1
  | c, b :: Γ => 0 ≤ c ∧ c < x ∧ M 75 c = (Γ.length : Int) ∧ 0 ≤ M 76 c ∧ M 76 c < u ∧ Row M (M 76 c) 0 (flat b) ∧ (flat b).length ≤ 16 ∧ ok Γ.length b = true ∧ Ctx M u x (M 74 c) Γ
def bnd : List Ty → Nat → Ty
  | [], _ => .nil
  | b :: Γ, k => if k = Γ.length then b else bnd Γ k
section PmM5
variable {d : Nat} {Q : Option Value → pm_S → Prop} {M N : pm_M} {Rf : Nat → Nat → Nat} {K L : Nat → Nat} {n s : Nat}
theorem bit_iff {m k : Nat} : bit m k = true ↔ m / 2 ^ k % 2 = 1 := by sorry
theorem okl_on {d m k : Nat} {x : Ty} (h : okl d m k x) (hb : m / 2 ^ k % 2 = 1) : ok d x = true := by sorry
end PmM5

end
section
-- from 30
def hd : Ty → Nat
  | .tag c _ => c
  | _ => 0
def vw : List Nat → Nat → Nat
  | [], _ => 0
  | w :: ω, k => if k = ω.length then w else vw ω k
def wt : List Nat → Ty → Nat
  | ω, .tag c (.append a b) => if c = 2 then 1 + wt (wt ω a :: ω) b else 1 + (wt ω a + wt ω b)
  | ω, .tag c .nil => 1 + (if 16 ≤ c then vw ω (c - 16) else 0)
  | ω, .append a b => wt ω a + wt ω b
  | _, _ => 0
def om : List Ty → List Nat
  | [] => []
  | b :: Γ => wt (om Γ) b :: om Γ
theorem wt_var (ω : List Nat) (k : Nat) : wt ω (tVar k) = 1 + vw ω k := by sorry
theorem wt_pos {d : Nat} {t : Ty} (h : ok d t = true) (ω : List Nat) : 1 ≤ wt ω t := by sorry
theorem vw_app_lo : ∀ (μ ω : List Nat) (k : Nat), k < ω.length → vw (μ ++ ω) k = vw ω k := by sorry
theorem vw_app_hi : ∀ (μ ν ω : List Nat) (k : Nat), ω.length ≤ k → k < ω.length + μ.length → vw (μ ++ (ν ++ ω)) (k + ν.length) = vw (μ ++ ω) k := by sorry
def okc : List Ty → Prop
  | [] => True
  | b :: Γ => ok Γ.length b = true ∧ okc Γ
theorem wt_bnd : ∀ (Γ : List Ty) (k : Nat), okc Γ → k < Γ.length → ∃ ν : List Nat, ∃ ω : List Nat, om Γ = ν ++ ω ∧ ω.length = k ∧ ok k (bnd Γ k) = true ∧ vw (om Γ) k = wt ω (bnd Γ k) := by sorry
theorem wt_expose {Γ : List Ty} {k : Nat} (hc : okc Γ) (hk : k < Γ.length) : wt (om Γ) (lft k (Γ.length - k) (bnd Γ k)) = vw (om Γ) k := by sorry
def k1 : Ty → Ty
  | .tag _ (.append a _) => a
  | _ => .nil
def k2 : Ty → Ty
  | .tag _ (.append _ b) => b
  | _ => .nil
def r2 : Ty → Ty
  | .tag _ (.append _ (.append y _)) => y
  | _ => .nil
def r3 : Ty → Ty
  | .tag _ (.append _ (.append _ z)) => z
  | _ => .nil
abbrev Tsk : Type := List Ty × Ty × Ty
def stl (Γ : List Ty) (m k : Nat) (x y : Ty) : List Tsk := if bit m k then [(Γ, x, y)] else []
def stp (Γ : List Ty) (s t : Ty) : Option (List Tsk) :=
  if hd t = 0 ∨ (16 ≤ hd s ∧ hd s = hd t) then some []
  else if 16 ≤ hd s then some [(Γ, lft (hd s - 16) (Γ.length - (hd s - 16)) (bnd Γ (hd s - 16)), t)]
  else if 8 ≤ hd s ∧ 8 ≤ hd t ∧ hd t < 16 then
    (if (hd s - 8) &&& (hd t - 8) = hd t - 8 then some (stl Γ (hd t - 8) 2 (r3 s) (r3 t) ++ (stl Γ (hd t - 8) 1 (r2 s) (r2 t) ++ stl Γ (hd t - 8) 0 (k1 s) (k1 t))) else none)
  else if hd s ≠ hd t ∨ hd s = 0 then none
  else if hd s = 1 then some [(Γ, k2 s, k2 t), (Γ, k1 t, k1 s)]
  else if flat (k1 s) = flat (k1 t) then some [(k1 s :: Γ, k2 s, k2 t)] else none
def twt (x : Tsk) : Nat := wt (om x.1) x.2.1 + wt (om x.1) x.2.2
def tok (x : Tsk) : Prop := okc x.1 ∧ ok x.1.length x.2.1 = true ∧ ok x.1.length x.2.2 = true
def tws : List Tsk → Nat
  | [] => 0
  | x :: l => twt x + tws l
theorem tws_app : ∀ a b : List Tsk, tws (a ++ b) = tws a + tws b := by sorry
theorem hd_top : hd tTop = 0 := by sorry
theorem hd_var (k : Nat) : hd (tVar k) = 16 + k := by sorry
theorem hd_fun (a b : Ty) : hd (tFun a b) = 1 := by sorry
theorem hd_all (a b : Ty) : hd (tAll a b) = 2 := by sorry
theorem hd_rec (m : Nat) (x y z : Ty) : hd (tRec m x y z) = 8 + m := by sorry
end
section
-- from 31
theorem flat_eq {a b : Ty} {d e : Nat} (ha : ok d a = true) (hb : ok e b = true) (h : flat a = flat b) : a = b := by sorry
end
section
-- from 32
theorem ok_lft (k j : Nat) : ∀ (t : Ty) (m : Nat), ok (k + m) t = true → ok (k + j + m) (lft k j t) = true := by sorry
theorem ok_expose {Γ : List Ty} {k : Nat} (hc : okc Γ) (hk : k < Γ.length) : ok Γ.length (lft k (Γ.length - k) (bnd Γ k)) = true := by sorry
theorem stp_w {Γ : List Ty} {s t : Ty} {l : List Tsk} (h : tok (Γ, s, t)) (e : stp Γ s t = some l) : tws l + 1 ≤ twt (Γ, s, t) ∧ ∀ x ∈ l, tok x := by sorry
end
section
-- from 32b
def rst (s t : Ty) : Nat := if hd t = 0 ∨ (16 ≤ hd s ∧ hd s = hd t) then 0 else if 16 ≤ hd s then 1 else if hd s = 2 ∧ hd t = 2 then 1 else 0
theorem rst_all (A C A' C' : Ty) : rst (tAll A C) (tAll A' C') = 1 := by sorry
theorem rst_var {k : Nat} {t : Ty} (h : ¬ (hd t = 0 ∨ 16 + k = hd t)) : rst (tVar k) t = 1 := by sorry
end
section
-- from 33
def Ext (M N : pm_M) (u x k : Int) : Prop := ∀ (p : Nat) (i : Int), (p = 56 → i ≠ 22 ∧ i ≠ 24 ∧ i ≠ 34) → (p = 73 → i < 17 * u) → (p = 74 ∨ p = 75 ∨ p = 76 → i < x) → (p = 80 → i < 6 * k) → N p i = M p i
theorem Ext.trans {M N O : pm_M} {u x k u' x' k' : Int} (h : Ext M N u x k) (h' : Ext N O u' x' k') (hu : u ≤ u') (hx : x ≤ x') (hk : k ≤ k') : Ext M O u x k := by sorry
def TH (M : pm_M) (u x a p b q c D : Int) (z : Tsk) : Prop := (0 ≤ a) ∧ (a < u) ∧ (0 ≤ p) ∧ (p + (flat z.2.1).length ≤ 17) ∧ (Row M a p (flat z.2.1)) ∧ (0 ≤ b) ∧ (b < u) ∧ (0 ≤ q) ∧ (q + (flat z.2.2).length ≤ 17) ∧ (Row M b q (flat z.2.2)) ∧ (Ctx M u x c z.1) ∧ (D = z.1.length) ∧ (tok z)
theorem TH.ok {M : pm_M} {u x a p b q c D : Int} {z : Tsk} (t : TH M u x a p b q c D z) : tok z := by sorry
theorem TH.mono {M N : pm_M} {u x k u' x' a p b q c D : Int} {z : Tsk} (t : TH M u x a p b q c D z) (h : Ext M N u x k) (hu : u ≤ u') (hx : x ≤ x') : TH N u' x' a p b q c D z := by sorry
def TA (M : pm_M) (u x j : Int) (z : Tsk) : Prop := TH M u x (M 80 (6 * j)) (M 80 (6 * j + 1)) (M 80 (6 * j + 2)) (M 80 (6 * j + 3)) (M 80 (6 * j + 4)) (M 80 (6 * j + 5)) z
theorem TA.mono {M N : pm_M} {u x k u' x' j : Int} {z : Tsk} (t : TA M u x j z) (h : Ext M N u x k) (hu : u ≤ u') (hx : x ≤ x') (hj : j < k) : TA N u' x' j z := by sorry
def TS (M : pm_M) (u x k : Int) : List Tsk → Prop
  | [] => True
  | z :: l => TA M u x (k + l.length) z ∧ TS M u x k l
theorem TS.mono {M N : pm_M} {u x k k' u' x' : Int} (h : Ext M N u x k') (hu : u ≤ u') (hx : x ≤ x') : ∀ {l : List Tsk}, k + l.length ≤ k' → TS M u x k l → TS N u' x' k l := by sorry
def SI (M N : pm_M) (u x k u' x' : Int) (l : List Tsk) : Prop := (Ext M N u x k) ∧ (∀ p i, R32 (N p i)) ∧ (N 56 22 = u') ∧ (N 56 24 = x') ∧ (u ≤ u') ∧ (x ≤ x') ∧ (N 56 34 = k + l.length) ∧ (TS N u' x' k l)
theorem SI.ext {M N : pm_M} {u x k u' x' : Int} {l : List Tsk} (t : SI M N u x k u' x' l) : Ext M N u x k := by sorry
section PmM6
variable {d : Nat} {Q : Option Value → pm_S → Prop} {M N : pm_M} {Rf : Nat → Nat → Nat} {K L : Nat → Nat} {n s : Nat}
end PmM6

end
section
-- from 34
theorem flat_hd {d : Nat} {t : Ty} (h : ok d t = true) : ∃ r, flat t = (hd t : Int) :: r := by sorry
theorem hd_is_var {d : Nat} {t : Ty} (h : ok d t = true) (h1 : 16 ≤ hd t) : ∃ k, k < d ∧ t = tVar k := by sorry
theorem hd_is_rec {d : Nat} {t : Ty} (h : ok d t = true) (h1 : 8 ≤ hd t) (h2 : hd t < 16) : ∃ m x y z, m < 8 ∧ t = tRec m x y z := by sorry
theorem flat_codes : ∀ (n : Nat) (t : Ty) (d : Nat), (flat t).length ≤ n → ok d t = true → ∀ c ∈ flat t, 0 ≤ c ∧ c < 32 + d + n := by sorry
section PmM7
variable {d : Nat} {Q : Option Value → pm_S → Prop} {M N : pm_M} {Rf : Nat → Nat → Nat} {K L : Nat → Nat} {n s : Nat}
end PmM7

end
section
-- from 34b
theorem hdf {d : Nat} {t : Ty} (h : ok d t = true) (h1 : hd t = 1) : ∃ a b, t = tFun a b ∧ ok d a = true ∧ ok d b = true := by sorry
theorem hda {d : Nat} {t : Ty} (h : ok d t = true) (h1 : hd t = 2) : ∃ a b, t = tAll a b ∧ ok d a = true ∧ ok (d + 1) b = true := by sorry
end
section
-- from 34c
theorem twt_two {z : Tsk} (h : tok z) : 2 ≤ twt z := by sorry
theorem twt_mem : ∀ {l : List Tsk} {z : Tsk}, z ∈ l → twt z ≤ tws l := by sorry
def sumt (μ : Tsk → Nat) : List Tsk → Nat
  | [] => 0
  | z :: l => μ z + sumt μ l
theorem sumt_app (μ : Tsk → Nat) : ∀ a b : List Tsk, sumt μ (a ++ b) = sumt μ a + sumt μ b := by sorry
theorem sumt_le {μ ν : Tsk → Nat} : ∀ {l : List Tsk}, (∀ z ∈ l, μ z ≤ ν z) → sumt μ l ≤ sumt ν l := by sorry
def trf : Nat → Tsk → Nat
  | 0, _ => 0
  | f + 1, z => match stp z.1 z.2.1 z.2.2 with
    | none => 0
    | some l => rst z.2.1 z.2.2 + sumt (trf f) l
theorem trf_more : ∀ (f g : Nat) (z : Tsk), tok z → twt z ≤ f → twt z ≤ g → trf f z = trf g z := by sorry
def trx (z : Tsk) : Nat := trf (twt z) z
def rxs (l : List Tsk) : Nat := sumt trx l
theorem rxs_app (a b : List Tsk) : rxs (a ++ b) = rxs a + rxs b := by sorry
theorem stp_x {z : Tsk} {l : List Tsk} (h : tok z) (e : stp z.1 z.2.1 z.2.2 = some l) : rxs l + rst z.2.1 z.2.2 = trx z := by sorry
theorem trx_none {z : Tsk} (e : stp z.1 z.2.1 z.2.2 = none) : trx z = 0 := by sorry
def tru (z : Tsk) : Nat := max (trx z) (trx (z.1, z.2.2, z.2.1))
end
section
-- from 35
def sb : Nat → List Tsk → Bool
  | _, [] => true
  | 0, _ :: _ => false
  | f + 1, z :: l => match stp z.1 z.2.1 z.2.2 with
    | none => false
    | some l' => sb f (l' ++ l)
def bel (Γ : List Ty) (S T : Ty) : Bool := sb (wt (om Γ) S + wt (om Γ) T) [(Γ, S, T)]
section PmM8
variable {d : Nat} {Q : Option Value → pm_S → Prop} {M N : pm_M} {Rf : Nat → Nat → Nat} {K L : Nat → Nat} {n s : Nat}
end PmM8

end
section
-- from 36
def hgt : List Nat → Ty → Nat
  | ω, .tag c (.append a b) => if c = 2 then 1 + max (hgt ω a) (hgt (hgt ω a :: ω) b) else 1 + max (hgt ω a) (hgt ω b)
  | ω, .tag c .nil => 1 + (if 16 ≤ c then vw ω (c - 16) else 0)
  | ω, .append a b => max (hgt ω a) (hgt ω b)
  | _, _ => 0
def oh : List Ty → List Nat
  | [] => []
  | b :: Γ => hgt (oh Γ) b :: oh Γ
theorem oh_len : ∀ Γ : List Ty, (oh Γ).length = Γ.length := by sorry
theorem hgt_top (ω : List Nat) : hgt ω tTop = 1 := by sorry
theorem hgt_var (ω : List Nat) (k : Nat) : hgt ω (tVar k) = 1 + vw ω k := by sorry
theorem hgt_fun (ω : List Nat) (a b : Ty) : hgt ω (tFun a b) = 1 + max (hgt ω a) (hgt ω b) := by sorry
theorem hgt_all (ω : List Nat) (a b : Ty) : hgt ω (tAll a b) = 1 + max (hgt ω a) (hgt (hgt ω a :: ω) b) := by sorry
theorem hgt_rec (ω : List Nat) {m : Nat} (x y z : Ty) : hgt ω (tRec m x y z) = 1 + max (hgt ω x) (max (hgt ω y) (hgt ω z)) := by sorry
theorem hgt_nil (ω : List Nat) : hgt ω .nil = 0 := by sorry
theorem hd_is_fun {d : Nat} {t : Ty} (h : ok d t = true) (h1 : hd t = 1) : ∃ a b, t = tFun a b ∧ ok d a = true ∧ ok d b = true := by sorry
theorem hd_is_all {d : Nat} {t : Ty} (h : ok d t = true) (h1 : hd t = 2) : ∃ a b, t = tAll a b ∧ ok d a = true ∧ ok (d + 1) b = true := by sorry
end
section
-- from 37
abbrev Rs : Type := Option (Option Ty)
def tn (w : Nat) : Rs := if w = 0 then some (some tTop) else none
def lim (t : Ty) : Rs := if (flat t).length ≤ 16 then some (some t) else some none
def exps (Γ : List Ty) (S : Ty) : Ty := lft (hd S - 16) (Γ.length - (hd S - 16)) (bnd Γ (hd S - 16))
def lset (w m m' : Nat) : Nat := if w = 0 then m &&& m' else m ||| m'
end
section
-- from 38
def UK (M N : pm_M) (u x : Int) : Prop := Ext M N u x 0 ∧ (∀ p i, R32 (N p i)) ∧ N 56 22 = u ∧ N 56 24 = x
theorem UK.trans {M N O : pm_M} {u x : Int} (h : UK M N u x) (h' : UK N O u x) : UK M O u x := by sorry
section PmM9
variable {d : Nat} {Q : Option Value → pm_S → Prop} {M N : pm_M} {Rf : Nat → Nat → Nat} {K L : Nat → Nat} {n s : Nat}
theorem TH.swap {u x a p b q c D : Int} {Γ : List Ty} {S T : Ty} (t : TH M u x a p b q c D (Γ, S, T)) : TH M u x b q a p c D (Γ, T, S) := by sorry
end PmM9

end
section
-- from 42
abbrev Gl : Type := Int × Int × Int × Int × Int × Int × Int
section PmM13
variable {d : Nat} {Q : Option Value → pm_S → Prop} {M N : pm_M} {Rf : Nat → Nat → Nat} {K L : Nat → Nat} {n s : Nat}
end PmM13

end
section
-- from 43
theorem and8 : ∀ m, m < 8 → ∀ m', m' < 8 → (8 + m) &&& (8 + m') = 8 + lset 0 m m' ∧ lset 0 m m' < 8 := by sorry
section PmM14
variable {d : Nat} {Q : Option Value → pm_S → Prop} {M N : pm_M} {Rf : Nat → Nat → Nat} {K L : Nat → Nat} {n s : Nat}
end PmM14

end
section
-- from 49b
abbrev Gz : Type := Nat × List Ty × Ty × Ty
def gzl (W : Nat) (Γ : List Ty) (ls m m' i : Nat) (X Y : Ty) : List Gz :=
  if bit ls i then (if bit m i then (if bit m' i then [(W, Γ, X, Y)] else [(2, Γ, X, X)]) else [(2, Γ, Y, Y)]) else []
def gcs (z : Gz) : List Gz :=
  if z.1 = 2 then []
  else if bel z.2.1 z.2.2.1 z.2.2.2 = true then []
  else if bel z.2.1 z.2.2.2 z.2.2.1 = true then []
  else if 16 ≤ hd z.2.2.1 then (if z.1 = 1 then [] else [(z.1, z.2.1, exps z.2.1 z.2.2.1, z.2.2.2)])
  else if 16 ≤ hd z.2.2.2 then (if z.1 = 1 then [] else [(z.1, z.2.1, z.2.2.1, exps z.2.1 z.2.2.2)])
  else if 8 ≤ hd z.2.2.1 ∧ 8 ≤ hd z.2.2.2 then gzl z.1 z.2.1 (lset z.1 (hd z.2.2.1 - 8) (hd z.2.2.2 - 8)) (hd z.2.2.1 - 8) (hd z.2.2.2 - 8) 0 (k1 z.2.2.1) (k1 z.2.2.2) ++ (gzl z.1 z.2.1 (lset z.1 (hd z.2.2.1 - 8) (hd z.2.2.2 - 8)) (hd z.2.2.1 - 8) (hd z.2.2.2 - 8) 1 (r2 z.2.2.1) (r2 z.2.2.2) ++ gzl z.1 z.2.1 (lset z.1 (hd z.2.2.1 - 8) (hd z.2.2.2 - 8)) (hd z.2.2.1 - 8) (hd z.2.2.2 - 8) 2 (r3 z.2.2.1) (r3 z.2.2.2))
  else if hd z.2.2.1 = 1 ∧ hd z.2.2.2 = 1 then [(1 - z.1, z.2.1, k1 z.2.2.1, k1 z.2.2.2), (z.1, z.2.1, k2 z.2.2.1, k2 z.2.2.2)]
  else if hd z.2.2.1 = 2 ∧ hd z.2.2.2 = 2 ∧ flat (k1 z.2.2.1) = flat (k1 z.2.2.2) then [(z.1, k1 z.2.2.1 :: z.2.1, k2 z.2.2.1, k2 z.2.2.2)]
  else []
def gro (z : Gz) : Nat := if bel z.2.1 z.2.2.1 z.2.2.2 = true then 0 else if bel z.2.1 z.2.2.2 z.2.2.1 = true then 0 else if hd z.2.2.1 = 2 ∧ hd z.2.2.2 = 2 ∧ flat (k1 z.2.2.1) = flat (k1 z.2.2.2) then 2 else 1
def gno (z : Gz) : Nat := if z.1 = 1 then 1 else if bel z.2.1 z.2.2.1 z.2.2.2 = true then 1 else if bel z.2.1 z.2.2.2 z.2.2.1 = true then 1 else if 16 ≤ hd z.2.2.1 ∨ 16 ≤ hd z.2.2.2 then 0 else 1
def sgl (μ : Gz → Nat) : List Gz → Nat
  | [] => 0
  | z :: l => μ z + sgl μ l
theorem sgl_app (μ : Gz → Nat) : ∀ a b : List Gz, sgl μ (a ++ b) = sgl μ a + sgl μ b := by sorry
theorem sgl_congr {μ ν : Gz → Nat} : ∀ {l : List Gz}, (∀ z ∈ l, μ z = ν z) → sgl μ l = sgl ν l := by sorry
theorem sgl_mono {μ ν : Gz → Nat} : ∀ {l : List Gz}, (∀ z ∈ l, μ z ≤ ν z) → sgl μ l ≤ sgl ν l := by sorry
def gmf : Nat → Gz → Nat
  | 0, _ => 0
  | f + 1, z => if z.1 = 2 then 0 else max (tru z.2) (gro z + sgl (gmf f) (gcs z))
def gnf : Nat → Gz → Nat
  | 0, _ => 1
  | f + 1, z => if z.1 = 2 then 1 else max 1 (gno z + sgl (gnf f) (gcs z))
theorem gmf_two (f : Nat) {z : Gz} (h : z.1 = 2) : gmf f z = 0 := by sorry
theorem gnf_two (f : Nat) {z : Gz} (h : z.1 = 2) : gnf f z = 1 := by sorry
theorem gnf_pos (f : Nat) (z : Gz) : 1 ≤ gnf f z := by sorry
def gm (z : Gz) : Nat := gmf (twt z.2) z
def gn (z : Gz) : Nat := gnf (twt z.2) z
section PmGx
variable {w : Nat} {Γ : List Ty} {S T : Ty}
theorem gcs_bel1 (w2 : w ≠ 2) (b : bel Γ S T = true) : gcs (w, Γ, S, T) = [] ∧ gro (w, Γ, S, T) ≤ 1 ∧ gno (w, Γ, S, T) = 1 := by sorry
theorem gcs_bel2 (w2 : w ≠ 2) (b : ¬ bel Γ S T = true) (b' : bel Γ T S = true) : gcs (w, Γ, S, T) = [] ∧ gro (w, Γ, S, T) ≤ 1 ∧ gno (w, Γ, S, T) = 1 := by sorry
theorem gcs_v1 {k : Nat} (w2 : w ≠ 2) (w1 : w ≠ 1) (b : ¬ bel Γ (tVar k) T = true) (b' : ¬ bel Γ T (tVar k) = true) : gcs (w, Γ, tVar k, T) = [(w, Γ, lft k (Γ.length - k) (bnd Γ k), T)] ∧ gro (w, Γ, tVar k, T) = 1 ∧ gno (w, Γ, tVar k, T) = 0 := by sorry
theorem gcs_v2 {k : Nat} (w2 : w ≠ 2) (w1 : w ≠ 1) (n1 : ¬ 16 ≤ hd S) (b : ¬ bel Γ S (tVar k) = true) (b' : ¬ bel Γ (tVar k) S = true) : gcs (w, Γ, S, tVar k) = [(w, Γ, S, lft k (Γ.length - k) (bnd Γ k))] ∧ gro (w, Γ, S, tVar k) = 1 ∧ gno (w, Γ, S, tVar k) = 0 := by sorry
theorem gcs_w1 (b : ¬ bel Γ S T = true) (b' : ¬ bel Γ T S = true) (hv : 16 ≤ hd S ∨ 16 ≤ hd T) : gcs (1, Γ, S, T) = [] ∧ gro (1, Γ, S, T) ≤ 1 ∧ gno (1, Γ, S, T) = 1 := by sorry
theorem gcs_rec {m m' : Nat} {X0 X1 X2 Y0 Y1 Y2 : Ty} (hm : m < 8) (hm' : m' < 8) (w2 : w ≠ 2) (b : ¬ bel Γ (tRec m X0 X1 X2) (tRec m' Y0 Y1 Y2) = true) (b' : ¬ bel Γ (tRec m' Y0 Y1 Y2) (tRec m X0 X1 X2) = true) : gcs (w, Γ, tRec m X0 X1 X2, tRec m' Y0 Y1 Y2) = gzl w Γ (lset w m m') m m' 0 X0 Y0 ++ (gzl w Γ (lset w m m') m m' 1 X1 Y1 ++ gzl w Γ (lset w m m') m m' 2 X2 Y2) ∧ gro (w, Γ, tRec m X0 X1 X2, tRec m' Y0 Y1 Y2) = 1 ∧ gno (w, Γ, tRec m X0 X1 X2, tRec m' Y0 Y1 Y2) = 1 := by sorry
theorem gcs_fun {A C A' C' : Ty} (w2 : w ≠ 2) (b : ¬ bel Γ (tFun A C) (tFun A' C') = true) (b' : ¬ bel Γ (tFun A' C') (tFun A C) = true) : gcs (w, Γ, tFun A C, tFun A' C') = [(1 - w, Γ, A, A'), (w, Γ, C, C')] ∧ gro (w, Γ, tFun A C, tFun A' C') = 1 ∧ gno (w, Γ, tFun A C, tFun A' C') = 1 := by sorry
theorem gcs_all {A C C' : Ty} (w2 : w ≠ 2) (b : ¬ bel Γ (tAll A C) (tAll A C') = true) (b' : ¬ bel Γ (tAll A C') (tAll A C) = true) : gcs (w, Γ, tAll A C, tAll A C') = [(w, A :: Γ, C, C')] ∧ gro (w, Γ, tAll A C, tAll A C') = 2 ∧ gno (w, Γ, tAll A C, tAll A C') = 1 := by sorry
theorem gcs_no (w2 : w ≠ 2) (b : ¬ bel Γ S T = true) (b' : ¬ bel Γ T S = true) (n1 : ¬ 16 ≤ hd S) (n2 : ¬ 16 ≤ hd T) (n3 : ¬ (8 ≤ hd S ∧ 8 ≤ hd T)) (n4 : ¬ (hd S = 1 ∧ hd T = 1)) (n5 : ¬ (hd S = 2 ∧ hd T = 2 ∧ flat (k1 S) = flat (k1 T))) : gcs (w, Γ, S, T) = [] ∧ gro (w, Γ, S, T) ≤ 1 ∧ gno (w, Γ, S, T) = 1 := by sorry
theorem gcs_cases (h : tok (Γ, S, T)) (w2 : w ≠ 2) : (gcs (w, Γ, S, T) = [] ∧ gro (w, Γ, S, T) ≤ 1 ∧ gno (w, Γ, S, T) = 1) ∨ (w ≠ 1 ∧ ∃ k, k < Γ.length ∧ S = tVar k ∧ gcs (w, Γ, S, T) = [(w, Γ, lft k (Γ.length - k) (bnd Γ k), T)] ∧ gro (w, Γ, S, T) = 1 ∧ gno (w, Γ, S, T) = 0) ∨ (w ≠ 1 ∧ ¬ 16 ≤ hd S ∧ ∃ k, k < Γ.length ∧ T = tVar k ∧ gcs (w, Γ, S, T) = [(w, Γ, S, lft k (Γ.length - k) (bnd Γ k))] ∧ gro (w, Γ, S, T) = 1 ∧ gno (w, Γ, S, T) = 0) ∨ (∃ m X0 X1 X2 m' Y0 Y1 Y2, m < 8 ∧ m' < 8 ∧ S = tRec m X0 X1 X2 ∧ T = tRec m' Y0 Y1 Y2 ∧ gcs (w, Γ, S, T) = gzl w Γ (lset w m m') m m' 0 X0 Y0 ++ (gzl w Γ (lset w m m') m m' 1 X1 Y1 ++ gzl w Γ (lset w m m') m m' 2 X2 Y2) ∧ gro (w, Γ, S, T) = 1 ∧ gno (w, Γ, S, T) = 1) ∨ (∃ A C A' C', S = tFun A C ∧ T = tFun A' C' ∧ gcs (w, Γ, S, T) = [(1 - w, Γ, A, A'), (w, Γ, C, C')] ∧ gro (w, Γ, S, T) = 1 ∧ gno (w, Γ, S, T) = 1) ∨ (∃ A C C', S = tAll A C ∧ T = tAll A C' ∧ gcs (w, Γ, S, T) = [(w, A :: Γ, C, C')] ∧ gro (w, Γ, S, T) = 2 ∧ gno (w, Γ, S, T) = 1) := by sorry
theorem gzl_mem {ls m m' i : Nat} {X Y : Ty} (hX : okl Γ.length m i X) (hY : okl Γ.length m' i Y) {y : Gz} (hin : bit ls i = true → bit m i = true ∨ bit m' i = true) (hy : y ∈ gzl w Γ ls m m' i X Y) : (y.1 = 2 ∧ y.2.1 = Γ ∧ ok Γ.length y.2.2.1 = true ∧ ok Γ.length y.2.2.2 = true) ∨ (y = (w, Γ, X, Y) ∧ ok Γ.length X = true ∧ ok Γ.length Y = true) := by sorry
theorem lset_in (w m : Nat) (hm : m < 8) (m' : Nat) (hm' : m' < 8) (i : Nat) (hi : i < 3) : bit (lset w m m') i = true → bit m i = true ∨ bit m' i = true := by sorry
theorem gcs_w (h : tok (Γ, S, T)) (w2 : w ≠ 2) : ∀ y ∈ gcs (w, Γ, S, T), tok y.2 ∧ (y.1 = 2 ∨ twt y.2 + 1 ≤ twt (Γ, S, T)) := by sorry
end PmGx
theorem gmf_more : ∀ (f g : Nat) (z : Gz), tok z.2 → twt z.2 ≤ f → twt z.2 ≤ g → gmf f z = gmf g z := by sorry
theorem gnf_more : ∀ (f g : Nat) (z : Gz), tok z.2 → twt z.2 ≤ f → twt z.2 ≤ g → gnf f z = gnf g z := by sorry
theorem gm_unf {z : Gz} (h : tok z.2) (w2 : z.1 ≠ 2) : gm z = max (tru z.2) (gro z + sgl gm (gcs z)) := by sorry
theorem gn_unf {z : Gz} (h : tok z.2) (w2 : z.1 ≠ 2) : gn z = max 1 (gno z + sgl gn (gcs z)) := by sorry
section PmGy
variable {w : Nat} {Γ : List Ty} {S T : Ty}
end PmGy

end
section
-- from 50
def GE (N : pm_M) (u x g : Int) (z : Gz) : Prop := ∃ a p b q c : Int, N 81 (7 * g) = (z.1 : Int) ∧ N 81 (7 * g + 1) = a ∧ N 81 (7 * g + 2) = p ∧ N 81 (7 * g + 3) = b ∧ N 81 (7 * g + 4) = q ∧ N 81 (7 * g + 5) = c ∧ N 81 (7 * g + 6) = (z.2.1.length : Int) ∧ TH N u x a p b q c (z.2.1.length : Int) z.2 ∧ N 84 g = 0 ∧ z.1 ≤ 2
theorem GE.ok {N : pm_M} {u x g : Int} {z : Gz} (h : GE N u x g z) : tok z.2 := by sorry
def WR (u x g G : Int) (p : Nat) (i : Int) : Prop := (p = 56 ∧ (i = 22 ∨ i = 24 ∨ i = 34 ∨ i = 36)) ∨ (p = 73 ∧ 17 * u ≤ i) ∨ ((p = 74 ∨ p = 75 ∨ p = 76) ∧ x ≤ i) ∨ p = 80 ∨ (p = 81 ∧ ((7 * g ≤ i ∧ i < 7 * g + 7) ∨ 7 * G ≤ i)) ∨ ((p = 82 ∨ p = 83 ∨ p = 84 ∨ p = 85 ∨ p = 86) ∧ (i = g ∨ G ≤ i))
def PF (N N' : pm_M) (u x g G : Int) : Prop := ∀ (p : Nat) (i : Int), ¬ WR u x g G p i → N' p i = N p i
theorem PF.trans {N N1 N' : pm_M} {u x g G : Int} (h : PF N N1 u x g G) (h' : PF N1 N' u x g G) : PF N N' u x g G := by sorry
theorem PF.set {N N' : pm_M} {u x g G : Int} {p : Nat} {i v : Int} (h : PF N N' u x g G) (w : WR u x g G p i) : PF N (mset N' p i v) u x g G := by sorry
theorem UK.at {N N' : pm_M} {u x : Int} (h : UK N N' u x) (p : Nat) (i : Int) (hp : p = 81 ∨ p = 82 ∨ p = 83 ∨ p = 84 ∨ p = 85 ∨ p = 86) : N' p i = N p i := by sorry
def GR (N : pm_M) (u x : Int) : List Gl → List Gz → Prop
  | [], [] => True
  | y :: gs, z :: zs => (y.1 = (z.1 : Int) ∧ z.1 ≤ 2 ∧ y.2.2.2.2.2.2 = (z.2.1.length : Int) ∧ TH N u x y.2.1 y.2.2.1 y.2.2.2.1 y.2.2.2.2.1 y.2.2.2.2.2.1 (z.2.1.length : Int) z.2) ∧ GR N u x gs zs
  | [], _ :: _ => False
  | _ :: _, [] => False
theorem GR.len {N : pm_M} {u x : Int} : ∀ {a : List Gl} {b : List Gz}, GR N u x a b → a.length = b.length := by sorry
end
section
-- from 51
section PmGv
variable {w : Nat} {Γ : List Ty} {S T : Ty}
end PmGv
section PmGz
variable {W : Nat} {Γ : List Ty} {ls m m' i : Nat} {X Y : Ty}
theorem gzl_cases (hin : bit ls i = true → bit m i = true ∨ bit m' i = true) : (bit ls i = true ∧ bit m i = true ∧ bit m' i = true ∧ gzl W Γ ls m m' i X Y = [(W, Γ, X, Y)]) ∨ (bit ls i = true ∧ bit m i = true ∧ ¬ bit m' i = true ∧ gzl W Γ ls m m' i X Y = [(2, Γ, X, X)]) ∨ (bit ls i = true ∧ ¬ bit m i = true ∧ bit m' i = true ∧ gzl W Γ ls m m' i X Y = [(2, Γ, Y, Y)]) ∨ (¬ bit ls i = true ∧ gzl W Γ ls m m' i X Y = []) := by sorry
end PmGz
theorem TH.fun1 {N : pm_M} {u x a p b q c D : Int} {Γ : List Ty} {A C A' C' : Ty} (t : TH N u x a p b q c D (Γ, tFun A C, tFun A' C')) : TH N u x a (p + 1) b (q + 1) c D (Γ, A, A') ∧ TH N u x a (p + 1 + (flat A).length) b (q + 1 + (flat A').length) c D (Γ, C, C') := by sorry
end
section
-- from 52
section PmM20
variable {d : Nat} {N N1 N2 : pm_M} {u x g G : Int} {z : Gz}
theorem UK.hg (k1 : UK N N1 u x) (hg : N 56 36 = G) : N1 56 36 = G := by sorry
theorem exps_var {Γ : List Ty} {k : Nat} : exps Γ (tVar k) = lft k (Γ.length - k) (bnd Γ k) := by sorry
end PmM20

end
section
-- from 54
def szc (B : Nat) (Γ : List Ty) : Prop := ∀ k, k < Γ.length → (flat (bnd Γ k)).length ≤ B
def tkb (B : Nat) (Γ : List Ty) (S T : Ty) : Prop := tok (Γ, S, T) ∧ szc B Γ ∧ (flat S).length ≤ B ∧ (flat T).length ≤ B
section PmM22
variable {d : Nat} {Q : Option Value → pm_S → Prop} {M N : pm_M} {Rf : Nat → Nat → Nat} {K L : Nat → Nat} {n s : Nat}
end PmM22

end
section
-- from 55
def gzd : Gz := (0, [], tTop, tTop)
def sg (μ : Gz → Nat) (Z : Nat → Gz) : Nat → Nat → Nat
  | _, 0 => 0
  | f, k + 1 => μ (Z f) + sg μ Z (f + 1) k
def cb (b : Int → Int) : Nat → Nat
  | 0 => 0
  | k + 1 => cb b k + (if 0 ≤ b (k : Int) then 1 else 0)
def zx (Z : Nat → Gz) (G : Nat) (zs : List Gz) : Nat → Gz := fun j => if j < G then Z j else zs.getD (j - G) gzd
section PmCI
variable {N0 N N' : pm_M} {u0 x0 U X V u x u' x' : Int} {g G : Nat} {Z : Nat → Gz} {r0 : Rs}
end PmCI

end
section
-- from 56b
section PmGw
variable {W : Nat} {Γ : List Ty} {ls m m' i : Nat} {X Y : Ty}
end PmGw
theorem gm_least {μ : Gz → Nat} (P : Gz → Prop) (hP : ∀ z, P z → z.1 ≠ 2 → tok z.2 ∧ (∀ y ∈ gcs z, P y) ∧ tru z.2 ≤ μ z ∧ gro z + sgl (fun y => if y.1 = 2 then 0 else μ y) (gcs z) ≤ μ z) : ∀ (f : Nat) (z : Gz), P z → z.1 ≠ 2 → gmf f z ≤ μ z := by sorry
theorem gn_least {μ : Gz → Nat} (P : Gz → Prop) (hP : ∀ z, P z → z.1 ≠ 2 → tok z.2 ∧ (∀ y ∈ gcs z, P y) ∧ 1 ≤ μ z ∧ gno z + sgl (fun y => if y.1 = 2 then 1 else μ y) (gcs z) ≤ μ z) : ∀ (f : Nat) (z : Gz), P z → z.1 ≠ 2 → gnf f z ≤ μ z := by sorry
end
section
-- from 57
def tA (k : Nat) : Nat := [0, 1, 1, 2, 3, 3, 4, 5, 6, 9, 9, 12, 15, 18, 27, 27, 36].getD k 0
theorem flat_pos {d : Nat} {t : Ty} (h : ok d t = true) : 1 ≤ (flat t).length := by sorry
theorem hgt_len : ∀ (n : Nat) (t : Ty) (ω : List Nat) (v : Nat), (flat t).length ≤ n → ok ω.length t = true → (∀ k, k < ω.length → vw ω k ≤ v) → hgt ω t ≤ (flat t).length + v := by sorry
end
section
-- from 58
def SLT (N : pm_M) (i : Int) : Option Ty → Prop
  | none => N 72 i = 0
  | some t => N 72 i = 1 ∧ Row N i 0 (flat t) ∧ (flat t).length ≤ 16 ∧ ok 0 t = true
def SLM (N : pm_M) (T : Int → Option Ty) : Prop := ∀ i : Int, 0 ≤ i → i ≤ 3 → SLT N i (T i)
def sl (T : Int → Option Ty) (i : Int) : Option Ty := if 0 ≤ i ∧ i ≤ 3 then T i else none
theorem SLM.at {N : pm_M} {T : Int → Option Ty} {i : Int} {t : Ty} (h : SLM N T) (e : sl T i = some t) : 0 ≤ i ∧ i ≤ 3 ∧ N 72 i = 1 ∧ Row N i 0 (flat t) ∧ (flat t).length ≤ 16 ∧ ok 0 t = true := by sorry
def WM (p : Nat) (i : Int) : Prop := (p = 56 ∧ (i = 22 ∨ i = 24 ∨ i = 32 ∨ i = 33 ∨ i = 34 ∨ i = 36)) ∨ (72 ≤ p ∧ p ≤ 86)
def MF (N N' : pm_M) : Prop := ∀ (p : Nat) (i : Int), ¬ WM p i → N' p i = N p i
theorem MF.trans {N N1 N' : pm_M} (h : MF N N1) (h' : MF N1 N') : MF N N' := by sorry
theorem MF.set {N N' : pm_M} {p : Nat} {i v : Int} (h : MF N N') (w : WM p i) : MF N (mset N' p i v) := by sorry
section PmM24
variable {d : Nat} {Q : Option Value → pm_S → Prop} {M N : pm_M} {Rf : Nat → Nat → Nat} {K L : Nat → Nat} {n s : Nat}
end PmM24

end
section
-- from 61
theorem pm_G.new {Rf : Nat → Nat → Nat} {K L : Nat → Nat} {n k m : Nat} {r : Nat → Nat} (h : pm_G Rf K L n) : pm_G (pm_u Rf (n + 1) r) (pm_u K (n + 1) k) (pm_u L (n + 1) m) (n + 1) := by sorry
def RmI (Rf : Nat → Nat → Nat) (K L : Nat → Nat) (n z : Nat) : Prop := (∀ f, f < 5 → pm_Ar K L n (Rf 6 f) 0 z) ∧ (∀ f, f < 5 → Rf 6 f = 7 + f ∨ 100 ≤ Rf 6 f) ∧ (∀ f g, f < 5 → g < 5 → Rf 6 f = Rf 6 g → f = g) ∧ (z = 64 ∨ z = 128 ∨ z = 256 ∨ z = 512 ∨ z = 1024 ∨ z = 2048 ∨ z = 4096 ∨ z = 8192 ∨ z = 16384) ∧ z ≤ 16384
section PmC1
variable {d : Nat} {Q : Option Value → pm_S → Prop} {M N : pm_M} {Rf : Nat → Nat → Nat} {K L : Nat → Nat} {n s : Nat}
end PmC1

end
section
-- from 64
def cc (c : Nat) : Nat := if c = 1 then 19 else if c = 2 then 35 else if 16 ≤ c then 64 + 8 * (c - 16) else c
def pt (t : Ty) (g : Nat) : Ty := if hd t < 8 then (if g = 0 then k1 t else if g = 1 then k2 t else .nil) else if hd t < 16 then (if g = 0 then k1 t else if g = 1 then r2 t else r3 t) else .nil
def hp (t : Ty) (g : Nat) : Bool := bit (cc (hd t)) g
theorem hp_rec {m : Nat} (hm : m < 8) (x y z : Ty) (g : Nat) (hg : g < 3) : hp (tRec m x y z) g = bit m g := by sorry
theorem pt_rec {m : Nat} (hm : m < 8) (x y z : Ty) : pt (tRec m x y z) 0 = x ∧ pt (tRec m x y z) 1 = y ∧ pt (tRec m x y z) 2 = z := by sorry
def nh (M : pm_M) (Rf : Nat → Nat → Nat) (cn i : Int) (c l : Nat) : Prop := 0 ≤ i ∧ i < cn ∧ M (Rf 6 0) i = (c : Int) ∧ M (Rf 6 4) i = (l : Int) ∧ ∀ g, g < 3 → 0 ≤ M (Rf 6 (1 + g)) i ∧ M (Rf 6 (1 + g)) i < cn
def ndf (M : pm_M) (Rf : Nat → Nat → Nat) (cn : Int) : Nat → Ty → Int → Prop
  | 0, _, _ => False
  | N + 1, t, i => nh M Rf cn i (cc (hd t)) (flat t).length ∧ ∀ g, g < 3 → hp t g = true → ndf M Rf cn N (pt t g) (M (Rf 6 (1 + g)) i)
section PmC4
variable {d : Nat} {M N : pm_M} {Rf : Nat → Nat → Nat} {K L : Nat → Nat} {n s : Nat}
end PmC4

end
section
-- from 66
def CX (W : Nat → Int → Prop) (M : pm_M) (Rf : Nat → Nat → Nat) (K L : Nat → Nat) (n s z : Nat) (cn : Int) (M' : pm_M) (Rf' : Nat → Nat → Nat) (K' L' : Nat → Nat) (n' s' z' : Nat) : Prop := pm_G Rf' K' L' n' ∧ RmI Rf' K' L' n' z' ∧ n ≤ n' ∧ z ≤ z' ∧ n' + z ≤ n + z' ∧ s' = s + 10 * (z' - z) ∧ (∀ p, p ≤ n → K' p = K p ∧ L' p = L p) ∧ (∀ p, p ≤ n → ∀ g, ¬ (p = 6 ∧ g < 5) → Rf' p g = Rf p g) ∧ (∀ g, g < 5 → Rf' 6 g = Rf 6 g ∨ n < Rf' 6 g) ∧ (∀ p, p ≤ n → (∀ g, g < 5 → p ≠ Rf 6 g) → ∀ i, ¬ W p i → M' p i = M p i) ∧ (∀ g, g < 5 → ∀ i : Int, 0 ≤ i → i < cn → M' (Rf' 6 g) i = M (Rf 6 g) i) ∧ ∀ p i, R32 (M' p i)
section PmCX
variable {W W' : Nat → Int → Prop} {M : pm_M} {Rf : Nat → Nat → Nat} {K L : Nat → Nat} {n s z : Nat} {cn : Int} {M' : pm_M} {Rf' : Nat → Nat → Nat} {K' L' : Nat → Nat} {n' s' z' : Nat} {M2 : pm_M} {R2 : Nat → Nat → Nat} {K2 L2 : Nat → Nat} {n2 s2 z2 : Nat} {cn2 : Int}
theorem CX.r (h : CX W M Rf K L n s z cn M' Rf' K' L' n' s' z') : RmI Rf' K' L' n' z' := by sorry
theorem CX.trans (h : CX W M Rf K L n s z cn M' Rf' K' L' n' s' z') (h' : CX W M' Rf' K' L' n' s' z' cn2 M2 R2 K2 L2 n2 s2 z2) (hc : cn ≤ cn2) : CX W M Rf K L n s z cn M2 R2 K2 L2 n2 s2 z2 := by sorry
theorem CX.set (h : CX W M Rf K L n s z cn M' Rf' K' L' n' s' z') {p : Nat} {i v : Int} (hp : ∀ g, g < 5 → p ≠ Rf' 6 g) (hw : W p i) (hv : R32 v) : CX W M Rf K L n s z cn (mset M' p i v) Rf' K' L' n' s' z' := by sorry
end PmCX
def ccI (c : Int) : Int := (cc c.toNat : Int)
def KC (M : pm_M) (kc : Nat) : Int → List Int → Prop
  | _, [] => True
  | j, c :: l => M kc j = ccI c ∧ KC M kc (j + 1) l
end
section
-- from 67
def XF (M : pm_M) (Rf : Nat → Nat → Nat) (cn : Int) (N : Nat) (t : Ty) (g : Nat) (x : Int) : Prop := 0 ≤ x ∧ x < cn ∧ (hp t g = true → ndf M Rf cn N (pt t g) x)
theorem XF.mono {M M' : pm_M} {Rf Rf' : Nat → Nat → Nat} {cn cn' : Int} {N : Nat} {t : Ty} {g : Nat} {x : Int} (h : XF M Rf cn N t g x) (e : ∀ g, g < 5 → ∀ i : Int, 0 ≤ i → i < cn → M' (Rf' 6 g) i = M (Rf 6 g) i) (hc : cn ≤ cn') : XF M' Rf' cn' N t g x := by sorry
section PmC6
variable {d : Nat}
end PmC6

end
section
-- from 68
def PKR (kp kc : Nat) (M M' : pm_M) (c0 : Int) (l : List Int) : Prop := (∀ (p : Nat) (i : Int), ¬ (p = kp ∧ i = 1) → ¬ (p = kc ∧ c0 ≤ i ∧ i < c0 + l.length) → M' p i = M p i) ∧ M' kp 1 = c0 + l.length ∧ KC M' kc c0 l ∧ ∀ p i, R32 (M' p i)
theorem PKR.trans {kp kc : Nat} {M M1 M2 : pm_M} {c0 : Int} {l l' : List Int} (hpc : kp ≠ kc) (h : PKR kp kc M M1 c0 l) (h' : PKR kp kc M1 M2 (c0 + l.length) l') : PKR kp kc M M2 c0 (l ++ l') := by sorry
section PmC7
variable {d : Nat} {M : pm_M} {Rf : Nat → Nat → Nat} {K L : Nat → Nat} {n s : Nat}
end PmC7

end
section
-- from 69
theorem lft_hd {d : Nat} {t : Ty} (h : ok d t = true) (k b : Nat) : hd (lft k b t) = if 16 + k ≤ hd t then hd t + b else hd t := by sorry
theorem lft_fun (k b : Nat) (x y : Ty) : lft k b (tFun x y) = tFun (lft k b x) (lft k b y) := by sorry
theorem lft_all (k b : Nat) (x y : Ty) : lft k b (tAll x y) = tAll (lft k b x) (lft k b y) := by sorry
theorem lft_rec {m : Nat} (hm : m < 8) (k b : Nat) (x y z : Ty) : lft k b (tRec m x y z) = tRec m (lft k b x) (lft k b y) (lft k b z) := by sorry
theorem lft_top (k b : Nat) : lft k b tTop = tTop := by sorry
theorem lft_var (k b v : Nat) : lft k b (tVar v) = if k ≤ v then tVar (v + b) else tVar v := by sorry
theorem lft_zero {d : Nat} {t : Ty} (h : ok d t = true) (k : Nat) (hk : k ≤ d) : lft k 0 t = t := by sorry
section PmC8
variable {d : Nat} {Q : Option Value → pm_S → Prop} {M : pm_M} {Rf : Nat → Nat → Nat} {K L : Nat → Nat} {n s : Nat}
end PmC8

end
section
-- from 71
def belz (z : Tsk) : Bool := bel z.1 z.2.1 z.2.2
theorem bel_eq {Γ : List Ty} {S T : Ty} (h : tok (Γ, S, T)) : bel Γ S T = (match stp Γ S T with | none => false | some l => l.all belz) := by sorry
def BN (M : pm_M) (Rf : Nat → Nat → Nat) (cn : Int) (Γ : List Ty) : Prop := ∀ k : Nat, k < Γ.length → ndf M Rf cn 16 (bnd Γ k) (M 12 k) ∧ (flat (bnd Γ k)).length ≤ 16
theorem BN.mono {M M' : pm_M} {Rf Rf' : Nat → Nat → Nat} {cn cn' : Int} {Γ : List Ty} (h : BN M Rf cn Γ) (e : ∀ g, g < 5 → ∀ i : Int, 0 ≤ i → i < cn → M' (Rf' 6 g) i = M (Rf 6 g) i) (e12 : ∀ k : Nat, k < Γ.length → M' 12 k = M 12 k) (hc : cn ≤ cn') : BN M' Rf' cn' Γ := by sorry
theorem okc_bnd : ∀ {Γ : List Ty} {k : Nat}, okc Γ → k < Γ.length → ok k (bnd Γ k) = true := by sorry
section PmC10
variable {d : Nat} {Q : Option Value → pm_S → Prop} {M : pm_M} {Rf : Nat → Nat → Nat} {K L : Nat → Nat} {n s : Nat}
end PmC10

end
section
-- from 72
section PmBel
variable {Γ : List Ty} {S T : Ty}
theorem bel_top (h : tok (Γ, S, T)) (e : hd T = 0) : bel Γ S T = true := by sorry
theorem bel_veq (h : tok (Γ, S, T)) (e1 : 16 ≤ hd S) (e2 : hd S = hd T) : bel Γ S T = true := by sorry
theorem bel_var {k : Nat} (h : tok (Γ, tVar k, T)) (e0 : hd T ≠ 0) (e1 : 16 + k ≠ hd T) : bel Γ (tVar k) T = bel Γ (lft k (Γ.length - k) (bnd Γ k)) T := by sorry
theorem bel_no (h : tok (Γ, S, T)) (e0 : hd T ≠ 0) (e1 : ¬ 16 ≤ hd S) (e2 : ¬ ((8 ≤ hd S ∧ hd S < 16) ∧ (8 ≤ hd T ∧ hd T < 16))) (e3 : hd S ≠ hd T) : bel Γ S T = false := by sorry
theorem bel_fun {a b a' b' : Ty} (h : tok (Γ, tFun a b, tFun a' b')) : bel Γ (tFun a b) (tFun a' b') = (bel Γ a' a && bel Γ b b') := by sorry
theorem bel_all {a b b' : Ty} (h : tok (Γ, tAll a b, tAll a b')) : bel Γ (tAll a b) (tAll a b') = bel (a :: Γ) b b' := by sorry
theorem bel_alln {a b a' b' : Ty} (h : tok (Γ, tAll a b, tAll a' b')) (hn : ¬ flat a = flat a') : bel Γ (tAll a b) (tAll a' b') = false := by sorry
theorem sub_bits : ∀ m, m < 8 → ∀ m', m' < 8 → ((m &&& m' = m') ↔ ((bit m' 0 = true → bit m 0 = true) ∧ (bit m' 1 = true → bit m 1 = true) ∧ (bit m' 2 = true → bit m 2 = true))) := by sorry
theorem bel_rec {m m' : Nat} {x y z x' y' z' : Ty} (hm : m < 8) (hm' : m' < 8) (h : tok (Γ, tRec m x y z, tRec m' x' y' z')) : bel Γ (tRec m x y z) (tRec m' x' y' z') = true ↔ ∀ g, g < 3 → hp (tRec m' x' y' z') g = true → hp (tRec m x y z) g = true ∧ bel Γ (pt (tRec m x y z) g) (pt (tRec m' x' y' z') g) = true := by sorry
end PmBel
end
section
-- from 73
def BH (M : pm_M) (Rf : Nat → Nat → Nat) (K L : Nat → Nat) (n z : Nat) (cn : Int) (Γ : List Ty) (S T : Ty) (i j : Int) : Prop := pm_G Rf K L n ∧ RmI Rf K L n z ∧ (∀ p i, R32 (M p i)) ∧ M 6 6 = cn ∧ 1 ≤ cn ∧ cn ≤ z ∧ tok (Γ, S, T) ∧ BN M Rf cn Γ ∧ ndf M Rf cn 16 S i ∧ ndf M Rf cn 16 T j ∧ (flat S).length ≤ 16 ∧ (flat T).length ≤ 16
section PmC11
variable {d : Nat}
end PmC11

end
section
-- from 76
theorem CX.less {W : Nat → Int → Prop} {M : pm_M} {Rf : Nat → Nat → Nat} {K L : Nat → Nat} {n s z : Nat} {cn cn' : Int} {M' : pm_M} {Rf' : Nat → Nat → Nat} {K' L' : Nat → Nat} {n' s' z' : Nat} (h : CX W M Rf K L n s z cn M' Rf' K' L' n' s' z') (hc : cn' ≤ cn) : CX W M Rf K L n s z cn' M' Rf' K' L' n' s' z' := by sorry
section PmC13
variable {d : Nat} {Q : Option Value → pm_S → Prop} {M : pm_M} {Rf : Nat → Nat → Nat} {K L : Nat → Nat} {n s : Nat}
end PmC13

end
section
-- from 78
abbrev Ru : Type := Option Ty
def tnu (w : Nat) : Ru := if w = 0 then some tTop else none
def uFun (w : Nat) : Ru → Ru → Ru
  | none, _ => tnu w
  | some _, none => tnu w
  | some a, some b => some (tFun a b)
def uAll (w : Nat) (A : Ty) : Ru → Ru
  | none => tnu w
  | some b => some (tAll A b)
def uRec (w m : Nat) : Ru → Ru → Ru → Ru
  | none, _, _ => tnu w
  | some _, none, _ => tnu w
  | some _, some _, none => tnu w
  | some a, some b, some c => some (tRec m a b c)
def upart (r : Ty → Ty → Ru) (set m m' i : Nat) (x y : Ty) : Ru :=
  if bit set i then (if bit m i then (if bit m' i then r x y else some x) else some y) else some .nil
def cmsU (r : Nat → List Ty → Ty → Ty → Ru) (w : Nat) (Γ : List Ty) (S T : Ty) : Ru :=
  if w = 2 then some S
  else if bel Γ S T = true then some (if w = 0 then T else S)
  else if bel Γ T S = true then some (if w = 0 then S else T)
  else if 16 ≤ hd S then (if w = 1 then none else r w Γ (exps Γ S) T)
  else if 16 ≤ hd T then (if w = 1 then none else r w Γ S (exps Γ T))
  else if 8 ≤ hd S ∧ 8 ≤ hd T then
    uRec w (lset w (hd S - 8) (hd T - 8)) (upart (r w Γ) (lset w (hd S - 8) (hd T - 8)) (hd S - 8) (hd T - 8) 0 (k1 S) (k1 T)) (upart (r w Γ) (lset w (hd S - 8) (hd T - 8)) (hd S - 8) (hd T - 8) 1 (r2 S) (r2 T)) (upart (r w Γ) (lset w (hd S - 8) (hd T - 8)) (hd S - 8) (hd T - 8) 2 (r3 S) (r3 T))
  else if hd S = 1 ∧ hd T = 1 then uFun w (r (1 - w) Γ (k1 S) (k1 T)) (r w Γ (k2 S) (k2 T))
  else if hd S = 2 ∧ hd T = 2 ∧ flat (k1 S) = flat (k1 T) then uAll w (k1 S) (r w (k1 S :: Γ) (k2 S) (k2 T))
  else tnu w
def cu : Nat → Nat → List Ty → Ty → Ty → Ru
  | 0, _, _, _, _ => none
  | f + 1, w, Γ, S, T => cmsU (cu f) w Γ S T
def cmu (w : Nat) (Γ : List Ty) (S T : Ty) : Ru := cu (wt (om Γ) S + wt (om Γ) T) w Γ S T
end
section
-- from 79
theorem cmu_eq {w : Nat} {Γ : List Ty} {S T : Ty} (h : tok (Γ, S, T)) : cmu w Γ S T = cmsU cmu w Γ S T := by sorry
section PmU
variable {w : Nat} {Γ : List Ty} {S T : Ty}
theorem cu_lo (h : tok (Γ, S, T)) (w2 : w ≠ 2) (b : bel Γ S T = true) : cmu w Γ S T = some (if w = 0 then T else S) := by sorry
end PmU

end
section
-- from 80
theorem tnu_some {w : Nat} {R : Ty} (h : tnu w = some R) : R = tTop := by sorry
theorem uFun_some {w : Nat} {R : Ty} : ∀ {a b : Ru}, uFun w a b = some R → R = tTop ∨ ∃ x y, a = some x ∧ b = some y ∧ R = tFun x y := by sorry
theorem uAll_some {w : Nat} {A R : Ty} : ∀ {a : Ru}, uAll w A a = some R → R = tTop ∨ ∃ x, a = some x ∧ R = tAll A x := by sorry
theorem uRec_some {w m : Nat} {R : Ty} : ∀ {a b c : Ru}, uRec w m a b c = some R → R = tTop ∨ ∃ x y z, a = some x ∧ b = some y ∧ c = some z ∧ R = tRec m x y z := by sorry
theorem cmu_ok {w : Nat} {Γ : List Ty} {S T R : Ty} (h : tkb 16 Γ S T) (e : cmu w Γ S T = some R) : ok Γ.length R = true ∧ (flat R).length ≤ 17 * gn (w, Γ, S, T) := by sorry
end
section
-- from 81
def nbo (z : Gz) : Nat := if gno z = 0 then 16 else gro z
def nbf : Nat → Gz → Nat
  | 0, _ => 0
  | f + 1, z => if z.1 = 2 then 0 else nbo z + sgl (nbf f) (gcs z)
theorem nbf_two (f : Nat) {z : Gz} (h : z.1 = 2) : nbf f z = 0 := by sorry
theorem nbf_more : ∀ (f g : Nat) (z : Gz), tok z.2 → twt z.2 ≤ f → twt z.2 ≤ g → nbf f z = nbf g z := by sorry
def nbm (w : Nat) (Γ : List Ty) (S T : Ty) : Nat := nbf (twt (Γ, S, T)) (w, Γ, S, T)
section PmNb
variable {w : Nat} {Γ : List Ty} {S T : Ty}
end PmNb
section PmC15
variable {d : Nat}
end PmC15

end
section
-- from 83
def PU (M : pm_M) (Rf : Nat → Nat → Nat) (cn : Int) (N set g : Nat) (u : Ru) (r : Int) : Prop := (u = none ∧ r = -1) ∨ ∃ R, u = some R ∧ 0 ≤ r ∧ r < cn ∧ (bit set g = true → ndf M Rf cn N R r)
theorem PU.mono {M M' : pm_M} {Rf Rf' : Nat → Nat → Nat} {cn cn' : Int} {N set g : Nat} {u : Ru} {r : Int} (h : PU M Rf cn N set g u r) (e : ∀ g, g < 5 → ∀ i : Int, 0 ≤ i → i < cn → M' (Rf' 6 g) i = M (Rf 6 g) i) (hc : cn ≤ cn') : PU M' Rf' cn' N set g u r := by sorry
section PmC17
variable {d : Nat}
end PmC17

end
section
-- from 85
theorem BH.swap {M : pm_M} {Rf : Nat → Nat → Nat} {K L : Nat → Nat} {n z : Nat} {cn : Int} {Γ : List Ty} {S T : Ty} {i j : Int} (h : BH M Rf K L n z cn Γ S T i j) : BH M Rf K L n z cn Γ T S j i := by sorry
end
section
-- from 89
def lv (S : Ty) : Nat := hd S - 15
end
section
-- from 91
def wend (h : Nat) : List Int := if h = 1 then [41] else if 8 ≤ h ∧ h < 16 then [93] else []
def PGF (M M' : pm_M) : Prop := ∀ (p : Nat) (i : Int), p ≠ 15 → ¬ (p = 13 ∧ i = 3) → M' p i = M p i
theorem PGF.trans {M M1 M2 : pm_M} (h : PGF M M1) (h' : PGF M1 M2) : PGF M M2 := by sorry
section PmC23
variable {d : Nat} {Q : Option Value → pm_S → Prop} {M : pm_M} {Rf : Nat → Nat → Nat} {K L : Nat → Nat} {n s : Nat}
end PmC23
section PmC24
variable {d : Nat}
end PmC24

end
section
-- from 93
def off (t : Ty) (g : Nat) : Nat := if g = 0 then 0 else if g = 1 then (flat (pt t 0)).length else (flat (pt t 0)).length + (flat (pt t 1)).length
section PmW
variable {en ce : Nat → Nat}
def c1 (en ce : Nat → Nat) (p i : Nat) : List Int := if en i = p + 1 then wend (ce i) else []
end PmW
section PmW2
variable {en ce : Nat → Nat}
end PmW2

end
section
-- from 94
def sub : Nat → Ty → Nat → Ty
  | 0, t, _ => t
  | f + 1, t, j => if j = 0 then t else if j - 1 < (flat (pt t 0)).length then sub f (pt t 0) (j - 1) else if j - 1 < (flat (pt t 0)).length + (flat (pt t 1)).length then sub f (pt t 1) (j - 1 - (flat (pt t 0)).length) else sub f (pt t 2) (j - 1 - (flat (pt t 0)).length - (flat (pt t 1)).length)
def PMF (N N' : pm_M) : Prop := ∀ (p : Nat) (i : Int), p ≠ 58 → ¬ (p = 56 ∧ i = 2) → N' p i = N p i
theorem PMF.trans {N N1 N2 : pm_M} (h : PMF N N1) (h' : PMF N1 N2) : PMF N N2 := by sorry
section PmM26
variable {d : Nat} {Q : Option Value → pm_S → Prop} {N : pm_M} {Rf : Nat → Nat → Nat} {K L : Nat → Nat} {n s : Nat}
end PmM26

end
section
-- from 96
def chr (tx : Nat → Int) (ln p : Nat) : Int := if p < ln then tx p else 0
def thn {α β : Type} (a : Nat × Option α) (f : α → Nat → Nat × Option β) : Nat × Option β := match a.2 with
  | none => (a.1, none)
  | some t => f t a.1
def lvl : List Int → Int → Option Nat
  | [], _ => none
  | a :: e, c => if a = c then some e.length else lvl e c
def pFs {α : Type} (tx : Nat → Int) (ln : Nat) (pr : Nat → Nat × Option α) (cl : Int) : Nat → Nat → Nat → Nat × Option (List (Nat × α))
  | 0, _, p => (p, none)
  | k + 1, l, p => if chr tx ln p < 120 + (l : Int) ∨ 123 ≤ chr tx ln p then (p, none) else
    thn (pr (p + 1)) (fun t q => if chr tx ln q = cl then (q + 1, some [((chr tx ln p - 120).toNat, t)]) else if chr tx ln p = 122 ∨ chr tx ln q ≠ 44 then (q, none) else
      thn (pFs tx ln pr cl k ((chr tx ln p - 120).toNat + 1) (q + 1)) (fun r q' => (q', some (((chr tx ln p - 120).toNat, t) :: r))))
def msk {α : Type} : List (Nat × α) → Nat
  | [] => 0
  | a :: r => 2 ^ a.1 + msk r
def lk {α : Type} : List (Nat × α) → Nat → Option α
  | [], _ => none
  | a :: r, g => if a.1 = g then some a.2 else lk r g
def lkT (r : List (Nat × (Ty × Bool))) (g : Nat) : Ty := match lk r g with
  | none => .nil
  | some a => a.1
def allc : List (Nat × (Ty × Bool)) → Bool
  | [] => true
  | a :: r => a.2.2 && allc r
def mkR (r : List (Nat × (Ty × Bool))) : Ty × Bool := (tRec (msk r) (lkT r 0) (lkT r 1) (lkT r 2), allc r)
def pT (tx : Nat → Int) (ln : Nat) : Nat → List Int → Nat → Nat × Option (Ty × Bool)
  | 0, e, p => if chr tx ln p = 84 then (p + 1, some (tTop, true)) else if 80 ≤ chr tx ln p ∧ chr tx ln p ≤ 83 then (p + 1, some (tVar ((lvl e (chr tx ln p)).getD 0), (lvl e (chr tx ln p)).isSome)) else if chr tx ln p = 91 then (if chr tx ln (p + 1) = 93 then (p + 2, some (mkR [])) else (p + 1, none)) else (p, none)
  | r + 1, e, p => if chr tx ln p = 84 then (p + 1, some (tTop, true)) else if 80 ≤ chr tx ln p ∧ chr tx ln p ≤ 83 then (p + 1, some (tVar ((lvl e (chr tx ln p)).getD 0), (lvl e (chr tx ln p)).isSome)) else if chr tx ln p = 91 then (if chr tx ln (p + 1) = 93 then (p + 2, some (mkR [])) else thn (pFs tx ln (pT tx ln r e) 93 3 0 (p + 1)) (fun l q => (q, some (mkR l)))) else if chr tx ln p = 40 then
      thn (pT tx ln r e (p + 1)) (fun a q => if chr tx ln q = 62 then thn (pT tx ln r e (q + 1)) (fun b q' => if chr tx ln q' = 41 then (q' + 1, some (tFun a.1 b.1, a.2 && b.2)) else (q', none)) else (q, none))
    else if chr tx ln p = 60 then (if 80 ≤ chr tx ln (p + 1) ∧ chr tx ln (p + 1) ≤ 83 then (if chr tx ln (p + 2) = 58 then
      thn (pT tx ln r e (p + 3)) (fun a q => if chr tx ln q = 62 then thn (pT tx ln r (chr tx ln (p + 1) :: e) (q + 1)) (fun b q' => (q', some (tAll a.1 b.1, a.2 && b.2))) else (q, none))
      else (p + 2, none)) else (p + 1, none))
    else (p, none)
def mN (p k m : Nat) (x y z : Ty) : Ty := .nest (p : Int) (.tag k (.tag m (.append x (.append y z))))
def nPl : Ty → Nat
  | .nest p _ => p.toNat
  | _ => 0
def nKd : Ty → Nat
  | .nest _ (.tag k _) => k
  | _ => 0
def nMk : Ty → Nat
  | .nest _ (.tag _ (.tag m _)) => m
  | _ => 0
def nX : Ty → Ty
  | .nest _ (.tag _ (.tag _ (.append x _))) => x
  | _ => .nil
def nY : Ty → Ty
  | .nest _ (.tag _ (.tag _ (.append _ (.append y _)))) => y
  | _ => .nil
def nZ : Ty → Ty
  | .nest _ (.tag _ (.tag _ (.append _ (.append _ z)))) => z
  | _ => .nil
def tnm : List (Nat × Int × Nat) → List Int
  | [] => []
  | a :: e => if a.1 = 0 then a.2.1 :: tnm e else tnm e
def bnr : List (Nat × Int × Nat) → Int → Option Nat
  | [], _ => none
  | a :: e, c => if a.1 = 1 ∧ a.2.1 = c then some a.2.2 else bnr e c
def FW {α : Type} (ln p : Nat) (a : Nat × Option α) : Prop := p ≤ a.1 ∧ a.1 ≤ ln ∧ (a.2.isSome = true → p < a.1)
theorem FW.up {α : Type} {ln p p' : Nat} {a : Nat × Option α} (h : FW ln p' a) (hp : p ≤ p') : FW ln p a := by sorry
section PmSp
variable {tx : Nat → Int} {ln : Nat}
end PmSp

end
section
-- from 97
def RTX (M : pm_M) (tx : Nat → Int) (ln : Nat) : Prop := M 38 6 = (ln : Int) ∧ ln ≤ 60 ∧ ∀ i : Nat, i < ln → M 2 i = tx i ∧ 32 ≤ tx i ∧ tx i ≤ 126
def TNm (M : pm_M) : List Int → Prop
  | [] => True
  | a :: e => M 39 (e.length : Int) = a ∧ TNm M e
section PmC26
variable {d : Nat} {Q : Option Value → pm_S → Prop} {M : pm_M} {Rf : Nat → Nat → Nat} {K L : Nat → Nat} {n s : Nat} {tx : Nat → Int} {ln p : Nat}
end PmC26

end
section
-- from 99
def WT (o : Nat) (p : Nat) (i : Int) : Prop := (p = 6 ∧ i = 6) ∨ (p = 38 ∧ (i = 7 ∨ i = 8 ∨ i = 11)) ∨ (p = 39 ∧ (o : Int) ≤ i)
def RdS (tx : Nat → Int) (ln : Nat) (e : List Int) (p : Nat) (M : pm_M) (Rf : Nat → Nat → Nat) (K L : Nat → Nat) (n z : Nat) (cn : Int) : Prop := pm_G Rf K L n ∧ RmI Rf K L n z ∧ (∀ p i, R32 (M p i)) ∧ M 6 6 = cn ∧ 1 ≤ cn ∧ cn ≤ z ∧ cn + ((ln - p : Nat) : Int) ≤ 8000 ∧ ndf M Rf cn 1 tTop 0 ∧ RTX M tx ln ∧ M 38 7 = (p : Int) ∧ p ≤ ln ∧ M 38 8 = (e.length : Int) ∧ TNm M e
section PmC27
variable {tx : Nat → Int} {ln : Nat} {e : List Int} {p q : Nat} {M M' : pm_M} {Rf Rf' : Nat → Nat → Nat} {K L K' L' : Nat → Nat} {n s z n' s' z' : Nat} {cn cn' : Int}
theorem RdS.set (h : RdS tx ln e p M Rf K L n z cn) (f : ∀ (p : Nat) (i : Int), ¬ (p = 38 ∧ (i = 7 ∨ i = 11)) → M' p i = M p i) (h7 : M' 38 7 = (q : Int)) (hp : p ≤ q) (hq : q ≤ ln) (hM : ∀ p i, R32 (M' p i)) : RdS tx ln e q M' Rf K L n z cn := by sorry
end PmC27
def PX (M : pm_M) (Rf : Nat → Nat → Nat) (cn : Int) (N : Nat) (acc : List (Nat × (Ty × Bool))) (g : Nat) (v : Int) : Prop := 0 ≤ v ∧ v < cn ∧ ∀ a, lk acc g = some a → ndf M Rf cn N a.1 v
theorem PX.mono {M M' : pm_M} {Rf Rf' : Nat → Nat → Nat} {cn cn' : Int} {N g : Nat} {acc : List (Nat × (Ty × Bool))} {v : Int} (h : PX M Rf cn N acc g v) (e : ∀ g, g < 5 → ∀ i : Int, 0 ≤ i → i < cn → M' (Rf' 6 g) i = M (Rf 6 g) i) (hc : cn ≤ cn') : PX M' Rf' cn' N acc g v := by sorry
section PmC28
variable {tx : Nat → Int} {ln d : Nat}

end PmC28

end
section
-- from 99a03
section PmC31
variable {tx : Nat → Int} {ln d : Nat}
def WT2 (o : Nat) (p : Nat) (i : Int) : Prop := WT o p i ∨ (p = 38 ∧ i = 12)
def big (v : Int) : Option (Ty × Bool) → Int
  | none => v
  | some a => if 16 < (flat a.1).length then 1 else v
end PmC31

end
section
-- from 99a04
def CT (M : pm_M) (tx : Nat → Int) (ln : Nat) : Prop := M 1 8 = (ln : Int) ∧ ln ≤ 60 ∧ ∀ i : Nat, i < ln → M 2 i = tx i ∧ 32 ≤ tx i ∧ tx i ≤ 126
section PmC32
variable {d : Nat} {Q : Option Value → pm_S → Prop} {M : pm_M} {Rf : Nat → Nat → Nat} {K L : Nat → Nat} {n s : Nat} {tx : Nat → Int} {ln : Nat}
end PmC32

end
section
-- from 99b01
def MT (N : pm_M) (tx : Nat → Int) (ln : Nat) : Prop := N 56 0 = (ln : Int) ∧ ln ≤ 60 ∧ ∀ i : Nat, i < ln → N 57 i = tx i ∧ 32 ≤ tx i ∧ tx i ≤ 126
def WMr (nd sc k : Nat) (p : Nat) (i : Int) : Prop := (p = 56 ∧ (i = 5 ∨ i = 11 ∨ i = 16)) ∨ (59 ≤ p ∧ p ≤ 63 ∧ (nd : Int) ≤ i) ∨ (64 ≤ p ∧ p ≤ 67 ∧ (sc : Int) ≤ i) ∨ (68 ≤ p ∧ p ≤ 71 ∧ (k : Int) ≤ i)
def MFr (nd sc k : Nat) (N N' : pm_M) : Prop := ∀ (p : Nat) (i : Int), ¬ WMr nd sc k p i → N' p i = N p i
theorem MFr.trans {nd sc k : Nat} {N N1 N2 : pm_M} (h : MFr nd sc k N N1) (h' : MFr nd sc k N1 N2) : MFr nd sc k N N2 := by sorry
theorem MFr.low {nd sc k nd' sc' k' : Nat} {N N' : pm_M} (h : MFr nd' sc' k' N N') (h1 : nd ≤ nd') (h2 : sc ≤ sc') (h3 : k ≤ k') : MFr nd sc k N N' := by sorry
theorem MFr.set {nd sc k : Nat} {N N' : pm_M} {p : Nat} {i v : Int} (h : MFr nd sc k N N') (w : WMr nd sc k p i) : MFr nd sc k N (mset N' p i v) := by sorry
section PmM28
variable {d : Nat} {Q : Option Value → pm_S → Prop} {N : pm_M} {Rf : Nat → Nat → Nat} {K L : Nat → Nat} {n s : Nat} {nd sc : Nat}
variable {tx : Nat → Int} {ln p : Nat} {wt : Int}
end PmM28

end
section
-- from 99b02
variable {lo : Nat}
def lowc (k : Nat) : Int := if k = 0 then 80 else 97
def SCh (lo : Nat) (N : pm_M) (nd sc : Nat) : Int → List (Nat × Int × Nat) → Prop
  | s, [] => s = -1
  | s, a :: r => ((lo : Int) ≤ s ∧ s < sc) ∧ N 65 s = (a.1 : Int) ∧ N 66 s = a.2.1 - lowc a.1 ∧ a.1 ≤ 1 ∧ N 64 s < s ∧ (((lo : Int) ≤ N 67 s ∧ N 67 s < nd) ∧ N 63 (N 67 s) = s) ∧ N 61 (N 67 s) = (a.2.2 : Int) ∧ SCh lo N nd sc (N 64 s) r
theorem SCh.up {nd sc nd' sc' : Nat} {N : pm_M} (h1 : nd ≤ nd') (h2 : sc ≤ sc') : ∀ {ch : List (Nat × Int × Nat)} {s : Int}, SCh lo N nd sc s ch → SCh lo N nd' sc' s ch := by sorry
def NT (lo : Nat) (N : pm_M) (nd sc : Nat) (j : Int) (c : Int) (b : Bool) : Prop := (b = true ∧ N 59 j = c ∧ 0 ≤ c ∧ c ≤ 2) ∨ (b = true ∧ N 59 j = 4 ∧ N 60 j = c - 8 ∧ 8 ≤ c ∧ c < 16) ∨ (N 59 j = 3 ∧ (0 ≤ N 60 j ∧ N 60 j ≤ 3) ∧ ∃ ch, SCh lo N nd sc (N 62 j) ch ∧ b = (lvl (tnm ch) (80 + N 60 j)).isSome ∧ c = 16 + (((lvl (tnm ch) (80 + N 60 j)).getD 0 : Nat) : Int))
def NTl (lo : Nat) (N : pm_M) (nd sc : Nat) : Nat → List Int → Bool → Prop
  | _, [], b => b = true
  | i, c :: l, b => ∃ b1 b2, NT lo N nd sc (i : Int) c b1 ∧ NTl lo N nd sc (i + 1) l b2 ∧ b = (b1 && b2)
section PmM29
variable {tx : Nat → Int} {ln : Nat} {d : Nat} {Q : Option Value → pm_S → Prop} {N : pm_M} {Rf : Nat → Nat → Nat} {K L : Nat → Nat} {n s0 : Nat} {nd sc p : Nat} {wt : Int} {l : List (Int × Int × Int × Int)}
end PmM29

end
section
-- from 99b08
variable {lo : Nat}
def xar (c : Int) : Nat := if 0 ≤ c then ar c else if c = -5 then 0 else if c = -11 then 1 else if c ≤ -100 then lab (-100 - c) else 2
def prx : Nat → List Int → Bool
  | 0, [] => true
  | 0, _ :: _ => false
  | _ + 1, [] => false
  | n + 1, c :: l => prx (n + xar c) l
def NX (lo : Nat) (N : pm_M) (nd sc : Nat) (j : Int) (c : Int) (b : Bool) : Prop := (0 ≤ c ∧ NT lo N nd sc j c b) ∨ (c = -5 ∧ N 59 j = 5 ∧ (0 ≤ N 60 j ∧ N 60 j ≤ 3) ∧ ∃ ch, SCh lo N nd sc (N 62 j) ch ∧ b = (bnr ch (97 + N 60 j)).isSome) ∨ (b = true ∧ N 59 j = -c ∧ (c = -6 ∨ c = -7 ∨ c = -8 ∨ c = -9 ∨ c = -11 ∨ c = -12)) ∨ (b = true ∧ N 59 j = 10 ∧ N 60 j = -100 - c ∧ c ≤ -100 ∧ -108 < c)
def NXl (lo : Nat) (N : pm_M) (nd sc : Nat) : Nat → List Int → Bool → Prop
  | _, [], b => b = true
  | i, c :: l, b => ∃ b1 b2, NX lo N nd sc (i : Int) c b1 ∧ NXl lo N nd sc (i + 1) l b2 ∧ b = (b1 && b2)
section PmM35
variable {d : Nat} {Q : Option Value → pm_S → Prop} {N : pm_M} {Rf : Nat → Nat → Nat} {K L : Nat → Nat} {n s0 : Nat} {nd sc : Nat}
end PmM35

end
section
-- from 99b09
variable {lo : Nat}
theorem SCh.len {N : pm_M} {nd sc : Nat} : ∀ {ch : List (Nat × Int × Nat)} {s : Int}, SCh lo N nd sc s ch → (ch.length : Int) ≤ s + 1 := by sorry
section PmM36
variable {d : Nat} {Q : Option Value → pm_S → Prop} {N : pm_M} {Rf : Nat → Nat → Nat} {K L : Nat → Nat} {n s0 : Nat} {nd sc : Nat}
def SOk (l : List Int) (b : Bool) : Prop := b = true ∧ ∀ (k : Nat) (t : Ty) (D : Nat) (post : List Int), ok D t = true → l.drop k = flat t ++ post → (flat t).length ≤ 16
def STy (l : List Int) : Prop := ∀ (k : Nat) (c : Int), l[k]? = some c → 0 ≤ c → ∃ (t : Ty) (D : Nat) (post : List Int), ok D t = true ∧ l.drop k = flat t ++ post
end PmM36

end
section
-- from 99b11
def NB (N : pm_M) (nd : Nat) (k : Int) (p : Nat) (s : Int) : Prop := N 59 nd = k ∧ N 61 nd = (p : Int) ∧ N 62 nd = s
section PmM40
variable {tx : Nat → Int} {ln : Nat} {d : Nat} {Q : Option Value → pm_S → Prop} {N : pm_M} {Rf : Nat → Nat → Nat} {K L : Nat → Nat} {n s0 : Nat} {nd sc p : Nat} {wt : Int} {l : List (Int × Int × Int × Int)}
end PmM40

end
section
-- from 99c01
section PmC33
variable {d : Nat} {Q : Option Value → pm_S → Prop} {M : pm_M} {Rf : Nat → Nat → Nat} {K L : Nat → Nat} {n s : Nat}
end PmC33
def sk (k m g : Nat) : Nat := if k = 6 ∨ k = 8 then (if g = 0 then 2 else if g = 1 then 1 else 0) else if k = 7 ∨ k = 12 then (if g ≤ 1 then 1 else 0) else if k = 9 then (if g = 0 then 1 else if g = 1 then 2 else 0) else if k = 10 then (if bit m g = true then 1 else 0) else if k = 11 then (if g = 0 then 1 else 0) else 0
def nP (t : Ty) (g : Nat) : Ty := if g = 0 then nX t else if g = 1 then nY t else nZ t
def CNd (M : pm_M) (X : Nat) (lo cnt : Int) (P : Ty → Int → Prop) : Nat → Ty → Int → Prop
  | 0, _, _ => False
  | f + 1, t, v => (lo ≤ v ∧ v < cnt) ∧ M (X + 1) v = (nKd t : Int) - 5 ∧ 5 ≤ nKd t ∧ M (X + 2) v = (nPl t : Int) ∧ (nKd t ≠ 5 → M (X + 3) v = (nMk t : Int)) ∧ (nKd t = 5 → (0 ≤ M (X + 4) v ∧ M (X + 4) v < cnt) ∧ M (X + 2) (M (X + 4) v) = (nMk t : Int)) ∧ ∀ g, g < 3 → (sk (nKd t) (nMk t) g = 1 → CNd M X lo cnt P f (nP t g) (M (X + 4 + g) v)) ∧ (sk (nKd t) (nMk t) g = 2 → P (nP t g) (M (X + 4 + g) v))
theorem CNd.mono {M M' : pm_M} {X : Nat} {lo lo' cnt cnt' : Int} {P P' : Ty → Int → Prop} (e : ∀ q, X + 1 ≤ q → q ≤ X + 6 → ∀ i : Int, lo ≤ i → i < cnt → M' q i = M q i) (e2 : ∀ i : Int, 0 ≤ i → i < cnt → M' (X + 2) i = M (X + 2) i) (hc : cnt ≤ cnt') (hl : lo' ≤ lo) (hP : ∀ A i, P A i → P' A i) : ∀ {f f' : Nat} {t : Ty} {v : Int}, f ≤ f' → CNd M X lo cnt P f t v → CNd M' X lo' cnt' P' f' t v := by sorry
theorem CNd.mk {M : pm_M} {X : Nat} {lo cnt : Int} {P : Ty → Int → Prop} {f p k m : Nat} {x y z : Ty} {v : Int} (hv : lo ≤ v ∧ v < cnt) (hk : 6 ≤ k) (h1 : M (X + 1) v = (k : Int) - 5) (h2 : M (X + 2) v = (p : Int)) (h3 : M (X + 3) v = (m : Int)) (h0 : (sk k m 0 = 1 → CNd M X lo cnt P f x (M (X + 4) v)) ∧ (sk k m 0 = 2 → P x (M (X + 4) v))) (h4 : (sk k m 1 = 1 → CNd M X lo cnt P f y (M (X + 5) v)) ∧ (sk k m 1 = 2 → P y (M (X + 5) v))) (h5 : (sk k m 2 = 1 → CNd M X lo cnt P f z (M (X + 6) v)) ∧ (sk k m 2 = 2 → P z (M (X + 6) v))) : CNd M X lo cnt P (f + 1) (mN p k m x y z) v := by sorry
end
section
-- from 99c02
def nct : List (Nat × Int × Nat) → Nat
  | [] => 0
  | a :: e => if a.1 = 1 then nct e + 1 else nct e
def NNm (M : pm_M) (X : Nat) (cnt : Int) : List (Nat × Int × Nat) → Prop
  | [] => True
  | a :: e => (a.1 = 1 → M 40 (nct e : Int) = a.2.1 ∧ (0 ≤ M 41 (nct e : Int) ∧ M 41 (nct e : Int) < cnt) ∧ M (X + 2) (M 41 (nct e : Int)) = (a.2.2 : Int)) ∧ NNm M X cnt e
def GF (M : pm_M) : Prop := M 38 11 ≠ 0 ∧ M 38 12 = 0
def PI (M : pm_M) (X c p : Nat) : Prop := (∀ i : Int, 0 ≤ i → i < c → M (X + 2) i < p) ∧ ∀ i j : Int, 0 ≤ i → i < j → j < c → M (X + 2) i < M (X + 2) j
theorem PI.add {M M' : pm_M} {X c p0 p : Nat} (h : PI M X c p0) (hp : p0 < p) (e : ∀ i : Int, 0 ≤ i → i < c → M' (X + 2) i = M (X + 2) i) (hc : M' (X + 2) (c : Int) = (p0 : Int)) : PI M' X (c + 1) p := by sorry
def RmS (tx : Nat → Int) (ln X : Nat) (e : List (Nat × Int × Nat)) (p c : Nat) (M : pm_M) (Rf : Nat → Nat → Nat) (K L : Nat → Nat) (n z : Nat) (cn : Int) : Prop := RdS tx ln (tnm e) p M Rf K L n z cn ∧ (X = 16 ∨ X = 23) ∧ Rf 38 5 = X ∧ M X 6 = (c : Int) ∧ c ≤ p ∧ M 38 9 = (nct e : Int) ∧ NNm M X (c : Int) e ∧ PI M X c p
def WTm (X c : Nat) (e : List (Nat × Int × Nat)) (p : Nat) (i : Int) : Prop := WT2 (tnm e).length p i ∨ (p = 38 ∧ i = 9) ∨ ((p = 40 ∨ p = 41) ∧ (nct e : Int) ≤ i) ∨ (p = X ∧ i = 6) ∨ (X + 1 ≤ p ∧ p ≤ X + 6 ∧ (c : Int) ≤ i)
section PmC34
variable {tx : Nat → Int} {ln X : Nat} {e : List (Nat × Int × Nat)} {p q c c' : Nat} {M M' : pm_M} {Rf Rf' : Nat → Nat → Nat} {K L K' L' : Nat → Nat} {n s z n' s' z' : Nat} {cn cn' : Int}
theorem RmS.add (h : RmS tx ln X e p c M Rf K L n z cn) (f : ∀ (q : Nat) (i : Int), ¬ (q = X ∧ i = 6) → ¬ (X + 1 ≤ q ∧ q ≤ X + 6 ∧ i = (c : Int)) → M' q i = M q i) (m6 : M' X 6 = ((c + 1 : Nat) : Int)) (r32 : ∀ p i, R32 (M' p i)) (hc : c + 1 ≤ p) {p0 : Nat} (hpi : PI M X c p0) (hp0 : p0 < p) (hpl : M' (X + 2) (c : Int) = (p0 : Int)) : RmS tx ln X e p (c + 1) M' Rf K L n z cn ∧ CX (WTm X c e) M Rf K L n s z cn M' Rf K L n s z := by sorry
end PmC34

end
section
-- from 99c04
def Kp (X : Nat) (lo c : Int) (M : pm_M) (Rf : Nat → Nat → Nat) (cn c' : Int) (M' : pm_M) (Rf' : Nat → Nat → Nat) (cn' : Int) : Prop := (∀ g, g < 5 → ∀ i : Int, 0 ≤ i → i < cn → M' (Rf' 6 g) i = M (Rf 6 g) i) ∧ cn ≤ cn' ∧ c ≤ c' ∧ (∀ q, X + 1 ≤ q → q ≤ X + 6 → ∀ i : Int, lo ≤ i → i < c → M' q i = M q i) ∧ ∀ i : Int, 0 ≤ i → i < c → M' (X + 2) i = M (X + 2) i
theorem Kp.trans {X : Nat} {lo c : Int} {M : pm_M} {Rf : Nat → Nat → Nat} {cn c' : Int} {M' : pm_M} {Rf' : Nat → Nat → Nat} {cn' c2 : Int} {M2 : pm_M} {R2 : Nat → Nat → Nat} {cn2 : Int} (h : Kp X lo c M Rf cn c' M' Rf' cn') (k : Kp X lo c' M' Rf' cn' c2 M2 R2 cn2) : Kp X lo c M Rf cn c2 M2 R2 cn2 := by sorry
def FT (tx : Nat → Int) (ln X : Nat) (e : List (Nat × Int × Nat)) (p0 v : Nat) (kd : Int) (M0 : pm_M) (R0 : Nat → Nat → Nat) (K0 L0 : Nat → Nat) (n0 s0 z0 : Nat) (cn0 : Int) (env : List (Nat × Int × Nat)) (p c : Nat) (M : pm_M) (Rf : Nat → Nat → Nat) (K L : Nat → Nat) (n s z : Nat) (cn : Int) (G : Prop) : Prop := RmS tx ln X env p c M Rf K L n z cn ∧ CX (WTm X v e) M0 R0 K0 L0 n0 s0 z0 cn0 M Rf K L n s z ∧ (cn0 ≤ cn ∧ cn ≤ cn0 + ((p - p0 : Nat) : Int)) ∧ (v + 1 ≤ c ∧ c ≤ v + (p - p0)) ∧ p0 + 1 ≤ p ∧ M (X + 1) (v : Int) = kd ∧ M (X + 2) (v : Int) = (p0 : Int) ∧ (GF M ↔ G)
section PmC35
variable {tx : Nat → Int} {ln X : Nat} {e : List (Nat × Int × Nat)} {p0 v : Nat} {kd : Int} {M0 : pm_M} {R0 : Nat → Nat → Nat} {K0 L0 : Nat → Nat} {n0 s0 z0 : Nat} {cn0 : Int} {env : List (Nat × Int × Nat)} {p c q c' : Nat} {M M' : pm_M} {Rf Rf' : Nat → Nat → Nat} {K L K' L' : Nat → Nat} {n s z n' s' z' : Nat} {cn cn' : Int} {G G' : Prop} {Q : Option Value → pm_S → Prop} {lv N : Nat}
theorem FT.any (F : FT tx ln X e p0 v kd M0 R0 K0 L0 n0 s0 z0 cn0 env p c M Rf K L n s z cn G) : FT tx ln X e p0 v kd M0 R0 K0 L0 n0 s0 z0 cn0 env p c M Rf K L n s z cn (GF M) := by sorry
theorem FT.le (F : FT tx ln X e p0 v kd M0 R0 K0 L0 n0 s0 z0 cn0 env p c M Rf K L n s z cn G) : p ≤ ln ∧ ln ≤ 60 ∧ c ≤ p ∧ v + 1 ≤ c ∧ p0 + 1 ≤ p := by sorry
theorem FT.take {a : Int} (F : FT tx ln X e p0 v kd M0 R0 K0 L0 n0 s0 z0 cn0 e p c M Rf K L n s z cn G) (hl : 0 + 2 ≤ lv) (c1 : 1 ≤ a) (c2 : a ≤ 200) (h1 : chr tx ln p = a → ∀ M' : pm_M, FT tx ln X e p0 v kd M0 R0 K0 L0 n0 s0 z0 cn0 e (p + 1) c M' Rf K L n s z cn G → Kp X ((v + 1 : Nat) : Int) (c : Int) M Rf cn (c : Int) M' Rf cn → Q (some (.int (zI 1))) (zM M', Rf, K, L, n, s)) (h0 : chr tx ln p ≠ a → Q (some (.int (zI 0))) (zM M, Rf, K, L, n, s)) : pm_Wc lv 79 [.ref 38, .int (zI a)] (zM M, Rf, K, L, n, s) Q := by sorry
end PmC35

end
section
-- from 99c06
section PmC37
variable {tx : Nat → Int} {ln d : Nat}
def PXm (M : pm_M) (X : Nat) (lo cnt : Int) (T : Ty → Int → Prop) (N : Nat) (acc : List (Nat × (Ty × Bool))) (g : Nat) (v : Int) : Prop := R32 v ∧ ∀ a, lk acc g = some a → a.2 = true → CNd M X lo cnt T N a.1 v
theorem PXm.mono {M M' : pm_M} {X : Nat} {lo lo' cnt cnt' : Int} {T T' : Ty → Int → Prop} {N g : Nat} {acc : List (Nat × (Ty × Bool))} {v : Int} (h : PXm M X lo cnt T N acc g v) (e : ∀ q, X + 1 ≤ q → q ≤ X + 6 → ∀ i : Int, lo ≤ i → i < cnt → M' q i = M q i) (e2 : ∀ i : Int, 0 ≤ i → i < cnt → M' (X + 2) i = M (X + 2) i) (hc : cnt ≤ cnt') (hl : lo' ≤ lo) (hT : ∀ A i, T A i → T' A i) : PXm M' X lo' cnt' T' N acc g v := by sorry
end PmC37

end
section
-- from 99d01
def tcode (k m : Nat) : Int := if k = 10 then -100 - (m : Int) else -(k : Int)
def tfl : Ty → List Int
  | .nest _ (.tag k (.tag m (.append x (.append y z)))) => tcode k m :: (tfl x ++ (tfl y ++ tfl z))
  | .tag c f => flat (.tag c f)
  | _ => []
section PmD1
variable {lo nd sc nd' sc' nd2 sc2 k j : Nat} {N N' : pm_M}
def TQ (m : Nat) (N : pm_M) (nd sc j : Nat) (l : List Int) (b g : Bool) : Prop := NXl 64 N nd sc j l b ∧ STy l ∧ (SOk l b ↔ g = true) ∧ prx m l = true
theorem TQ.nil : TQ 0 N nd sc j [] true true := by sorry
def MNd (lo : Nat) (N : pm_M) (nd sc : Nat) : Nat → Ty → Int → List (Nat × Int × Nat) → Nat → Prop
  | 0, _, _, _, _ => False
  | f + 1, t, s, ch, j => (j < nd ∧ N 59 (j : Int) = (nKd t : Int) ∧ N 61 (j : Int) = (nPl t : Int) ∧ N 62 (j : Int) = s ∧ SCh lo N nd sc s ch) ∧ (nKd t = 5 → (0 ≤ N 60 (j : Int) ∧ N 60 (j : Int) ≤ 3) ∧ bnr ch (97 + N 60 (j : Int)) = some (nMk t)) ∧ (10 ≤ nKd t → N 60 (j : Int) = (nMk t : Int)) ∧ (sk (nKd t) (nMk t) 0 = 1 → MNd lo N nd sc f (nX t) s ch (j + 1)) ∧ (sk (nKd t) (nMk t) 0 = 2 → NTl lo N nd sc (j + 1) (flat (nX t)) true ∧ j + 1 + (flat (nX t)).length ≤ nd) ∧ (sk (nKd t) (nMk t) 1 = 1 → ¬ (nKd t = 6 ∨ nKd t = 8) → MNd lo N nd sc f (nY t) s ch (j + 1 + (tfl (nX t)).length)) ∧ (nKd t = 6 ∨ nKd t = 8 → ∃ nm, (N 67 (N 63 (j : Int)) = (j : Int) ∧ N 64 (N 63 (j : Int)) = s) ∧ SCh lo N nd sc (N 63 (j : Int)) ((if nKd t = 6 then 1 else 0, nm, nPl t) :: ch) ∧ MNd lo N nd sc f (nY t) (N 63 (j : Int)) ((if nKd t = 6 then 1 else 0, nm, nPl t) :: ch) (j + 1 + (tfl (nX t)).length)) ∧ (sk (nKd t) (nMk t) 1 = 2 → NTl lo N nd sc (j + 1 + (tfl (nX t)).length) (flat (nY t)) true ∧ j + 1 + (tfl (nX t)).length + (flat (nY t)).length ≤ nd) ∧ (sk (nKd t) (nMk t) 2 = 1 → MNd lo N nd sc f (nZ t) s ch (j + 1 + (tfl (nX t)).length + (tfl (nY t)).length))
end PmD1
section PmD2
variable {lo nd sc f p j : Nat} {s : Int} {N : pm_M} {ch : List (Nat × Int × Nat)} {x y z : Ty}
theorem MNd.lam {m : Nat} {D : Nat} {nm : Int} (hj : j < nd) (nb : NB N j 6 p s) (hs : SCh lo N nd sc s ch) (ox : ok D x = true) (hx : NTl lo N nd sc (j + 1) (flat x) true) (hl : j + 1 + (flat x).length ≤ nd) (h67 : N 67 (N 63 (j : Int)) = (j : Int) ∧ N 64 (N 63 (j : Int)) = s) (hb : SCh lo N nd sc (N 63 (j : Int)) ((1, nm, p) :: ch)) (hy : MNd lo N nd sc f y (N 63 (j : Int)) ((1, nm, p) :: ch) (j + 1 + (flat x).length)) : MNd lo N nd sc (f + 1) (mN p 6 m x y .nil) s ch j := by sorry
theorem MNd.all {m : Nat} {D : Nat} {nm : Int} (hj : j < nd) (nb : NB N j 8 p s) (hs : SCh lo N nd sc s ch) (ox : ok D x = true) (hx : NTl lo N nd sc (j + 1) (flat x) true) (hl : j + 1 + (flat x).length ≤ nd) (h67 : N 67 (N 63 (j : Int)) = (j : Int) ∧ N 64 (N 63 (j : Int)) = s) (hb : SCh lo N nd sc (N 63 (j : Int)) ((0, nm, p) :: ch)) (hy : MNd lo N nd sc f y (N 63 (j : Int)) ((0, nm, p) :: ch) (j + 1 + (flat x).length)) : MNd lo N nd sc (f + 1) (mN p 8 m x y .nil) s ch j := by sorry
end PmD2
end
section
-- from 99d04
def nrm (a : Int) : Int := (zI a).toInt
def kv (N : pm_M) (p : Nat) (j : Int) : Int := if p = 62 then (if N 62 (64 + j) < 0 then -1 else N 62 (64 + j) - 64) else if p = 63 then nrm (N 63 (64 + j) - 64) else N p (64 + j)
def kn (N : pm_M) (i : Nat) : pm_M := fun p j => if 59 ≤ p ∧ p ≤ 63 ∧ 0 ≤ j ∧ j < i then kv N p j else N p j
def sv (N : pm_M) (p : Nat) (j : Int) : Int := if p = 64 then (if N 64 (64 + j) < 0 then -1 else N 64 (64 + j) - 64) else if p = 67 then nrm (N 67 (64 + j) - 64) else N p (64 + j)
def ks (N : pm_M) (i : Nat) : pm_M := fun p j => if 64 ≤ p ∧ p ≤ 67 ∧ 0 ≤ j ∧ j < i then sv N p j else N p j
section PmD6
variable {d : Nat} {Q : Option Value → pm_S → Prop} {N : pm_M} {Rf : Nat → Nat → Nat} {K L : Nat → Nat} {n s0 : Nat}
end PmD6

end
section
-- from 99d06
def nlb (m : Nat) : Nat := (if bit m 0 then 1 else 0) + (if bit m 1 then 1 else 0) + (if bit m 2 then 1 else 0)
def tch : Ty → Nat
  | .tag c (.append a b) => (if c = 2 then 4 else if c = 1 then 3 else if c = 8 then 2 else 1 + 2 * nlb (c - 8)) + (tch a + tch b)
  | .tag _ .nil => 1
  | .append a b => tch a + tch b
  | _ => 0
def rch (m : Nat) : Nat := if m = 0 then 2 else 1 + 2 * nlb m
theorem tch_top : tch tTop = 1 := by sorry
theorem tch_var (k : Nat) : tch (tVar k) = 1 := by sorry
theorem tch_nil : tch .nil = 0 := by sorry
theorem tch_fun (a b : Ty) : tch (tFun a b) = 3 + (tch a + tch b) := by sorry
theorem tch_all (a b : Ty) : tch (tAll a b) = 4 + (tch a + tch b) := by sorry
theorem tch_rec (m : Nat) (x y z : Ty) : tch (tRec m x y z) = rch m + (tch x + (tch y + tch z)) := by sorry
theorem tch_lft (k j : Nat) : ∀ (t : Ty) (d : Nat), ok d t = true → tch (lft k j t) = tch t := by sorry
def mch : Ty → Nat
  | .nest _ (.tag k (.tag m (.append x (.append y z)))) => if k = 5 then 1 else if k = 6 ∨ k = 8 then 4 + (tch x + mch y) else if k = 9 then 1 + (mch x + tch y) else if k = 10 then (if m = 0 then 2 else 1 + 3 * nlb m) + (mch x + (mch y + mch z)) else 2 + (mch x + mch y)
  | _ => 0
theorem mch_mN (p k m : Nat) (x y z : Ty) : mch (mN p k m x y z) = if k = 5 then 1 else if k = 6 ∨ k = 8 then 4 + (tch x + mch y) else if k = 9 then 1 + (mch x + tch y) else if k = 10 then (if m = 0 then 2 else 1 + 3 * nlb m) + (mch x + (mch y + mch z)) else 2 + (mch x + mch y) := by sorry
theorem mch_is {t : Ty} (h : t = mN (nPl t) (nKd t) (nMk t) (nX t) (nY t) (nZ t)) : mch t = if nKd t = 5 then 1 else if nKd t = 6 ∨ nKd t = 8 then 4 + (tch (nX t) + mch (nY t)) else if nKd t = 9 then 1 + (mch (nX t) + tch (nY t)) else if nKd t = 10 then (if nMk t = 0 then 2 else 1 + 3 * nlb (nMk t)) + (mch (nX t) + (mch (nY t) + mch (nZ t))) else 2 + (mch (nX t) + mch (nY t)) := by sorry
section PmJ7
variable {tx : Nat → Int} {ln : Nat}
end PmJ7

end
section
-- from 99e01
def sbt (k : Nat) (A : Ty) : Nat → Ty → Ty
  | i, .tag c (.append a b) => if c = 2 then .tag c (.append (sbt k A i a) (sbt k A (i + 1) b)) else .tag c (.append (sbt k A i a) (sbt k A i b))
  | i, .tag c .nil => if c = 16 + k then lft k i A else .tag (if 16 + k < c then c - 1 else c) .nil
  | i, .append a b => .append (sbt k A i a) (sbt k A i b)
  | _, t => t
theorem sbt_top (k i : Nat) (A : Ty) : sbt k A i tTop = tTop := by sorry
theorem sbt_var (k i v : Nat) (A : Ty) : sbt k A i (tVar v) = if v = k then lft k i A else if k < v then tVar (v - 1) else tVar v := by sorry
theorem sbt_fun (k i : Nat) (A a b : Ty) : sbt k A i (tFun a b) = tFun (sbt k A i a) (sbt k A i b) := by sorry
theorem sbt_all (k i : Nat) (A a b : Ty) : sbt k A i (tAll a b) = tAll (sbt k A i a) (sbt k A (i + 1) b) := by sorry
theorem sbt_rec (k i m : Nat) (A x y z : Ty) : sbt k A i (tRec m x y z) = tRec m (sbt k A i x) (sbt k A i y) (sbt k A i z) := by sorry
theorem sbt_nil (k i : Nat) (A : Ty) : sbt k A i .nil = .nil := by sorry
theorem ok_sbt {k : Nat} {A : Ty} (hA : ok k A = true) : ∀ (n : Nat) (t : Ty) (i : Nat), (flat t).length ≤ n → ok (k + 1 + i) t = true → ok (k + i) (sbt k A i t) = true := by sorry
def expo (Γ : List Ty) : Nat → Ty → Ty
  | 0, S => S
  | f + 1, S => if 16 ≤ hd S then expo Γ f (exps Γ S) else S
theorem expo_ok {Γ : List Ty} (hc : okc Γ) (hs : szc 16 Γ) : ∀ (f : Nat) (S : Ty), ok Γ.length S = true → (flat S).length ≤ 16 → ok Γ.length (expo Γ f S) = true ∧ (flat (expo Γ f S)).length ≤ 16 := by sorry
def tbd (a : Sum Nat Ty) (f : Ty → Sum Nat Ty) : Sum Nat Ty := match a with
  | .inl q => .inl q
  | .inr A => f A
def szt (p : Nat) (A : Ty) : Sum Nat Ty := if (flat A).length ≤ 16 then .inr A else .inl p
def dlk : List (Nat × Ty × Nat) → Nat → Option (Ty × Nat)
  | [], _ => none
  | a :: r, m => if a.1 = m then some a.2 else dlk r m
def tyA (Γ : List Ty) (F T : Ty) : Option Ty := if hd F = 1 ∧ bel Γ T (k1 F) = true then some (k2 F) else none
def tyI (Γ : List Ty) (F A : Ty) : Option Ty := if hd F = 2 ∧ bel Γ A (k1 F) = true then some (sbt Γ.length A 0 (k2 F)) else none
def tyD (m : Nat) (F : Ty) : Option Ty := if (8 ≤ hd F ∧ hd F < 16) ∧ bit (hd F - 8) m = true then some (pt F m) else none
def tyO (p : Nat) : Option Ty → Sum Nat Ty
  | none => .inl p
  | some A => szt p A
def tyF : Nat → Ty → List Ty → List (Nat × Ty × Nat) → Sum Nat Ty
  | 0, t, _, _ => .inl (nPl t)
  | f + 1, t, Γ, Δ =>
    if nKd t = 5 then tyO (nPl t) ((dlk Δ (nMk t)).map (fun a => lft a.2 (Γ.length - a.2) a.1))
    else if nKd t = 6 then tbd (tyF f (nY t) Γ ((nPl t, nX t, Γ.length) :: Δ)) (fun B => szt (nPl t) (tFun (nX t) B))
    else if nKd t = 7 then tbd (tyF f (nX t) Γ Δ) (fun S => tbd (tyF f (nY t) Γ Δ) (fun T => tyO (nPl t) (tyA Γ (expo Γ Γ.length S) T)))
    else if nKd t = 8 then tbd (tyF f (nY t) (nX t :: Γ) Δ) (fun B => szt (nPl t) (tAll (nX t) B))
    else if nKd t = 9 then tbd (tyF f (nX t) Γ Δ) (fun S => tyO (nPl t) (tyI Γ (expo Γ Γ.length S) (nY t)))
    else if nKd t = 10 then tbd (if bit (nMk t) 0 = true then tyF f (nX t) Γ Δ else .inr .nil) (fun A => tbd (if bit (nMk t) 1 = true then tyF f (nY t) Γ Δ else .inr .nil) (fun B => tbd (if bit (nMk t) 2 = true then tyF f (nZ t) Γ Δ else .inr .nil) (fun C => szt (nPl t) (tRec (nMk t) A B C))))
    else if nKd t = 11 then tbd (tyF f (nX t) Γ Δ) (fun S => tyO (nPl t) (tyD (nMk t) (expo Γ Γ.length S)))
    else tbd (tyF f (nX t) Γ Δ) (fun S => tbd (tyF f (nY t) Γ Δ) (fun T => tyO (nPl t) (cmu 0 Γ S T)))
def TWf : Nat → Nat → List Nat → Ty → Prop
  | 0, _, _, _ => False
  | f + 1, D, sc, t => ((5 ≤ nKd t ∧ nKd t ≤ 12) ∧ t = mN (nPl t) (nKd t) (nMk t) (nX t) (nY t) (nZ t) ∧ (∀ g, g < 3 → sk (nKd t) (nMk t) g = 0 → nP t g = .nil) ∧ ∀ q ∈ sc, q < nPl t) ∧ (nKd t = 5 → nMk t ∈ sc) ∧ (nKd t = 6 → nMk t = D ∧ ok D (nX t) = true ∧ (flat (nX t)).length ≤ 16 ∧ TWf f D (nPl t :: sc) (nY t)) ∧ (nKd t = 7 ∨ nKd t = 12 → TWf f D sc (nX t) ∧ TWf f D sc (nY t)) ∧ (nKd t = 8 → ok D (nX t) = true ∧ (flat (nX t)).length ≤ 16 ∧ TWf f (D + 1) sc (nY t)) ∧ (nKd t = 9 → TWf f D sc (nX t) ∧ ok D (nY t) = true ∧ (flat (nY t)).length ≤ 16) ∧ (nKd t = 10 → nMk t < 8 ∧ ∀ g, g < 3 → bit (nMk t) g = true → TWf f D sc (nP t g)) ∧ (nKd t = 11 → nMk t < 3 ∧ TWf f D sc (nX t)) ∧ (nKd t = 12 → nMk t < 2)
def TE (Γ : List Ty) (Δ : List (Nat × Ty × Nat)) : Prop := okc Γ ∧ szc 16 Γ ∧ ∀ a ∈ Δ, a.2.2 ≤ Γ.length ∧ ok a.2.2 a.2.1 = true ∧ (flat a.2.1).length ≤ 16
theorem dlk_mem : ∀ {Δ : List (Nat × Ty × Nat)} {m : Nat} {a : Ty × Nat}, dlk Δ m = some a → (m, a) ∈ Δ := by sorry
theorem dlk_some : ∀ {Δ : List (Nat × Ty × Nat)} {m : Nat}, m ∈ Δ.map (fun a => a.1) → ∃ a, dlk Δ m = some a := by sorry
theorem szt_in {p : Nat} {A B : Ty} (h : szt p A = .inr B) : A = B ∧ (flat B).length ≤ 16 := by sorry
theorem tyO_in {p : Nat} {o : Option Ty} {B : Ty} (h : tyO p o = .inr B) : o = some B ∧ (flat B).length ≤ 16 := by sorry
theorem tbd_in {a : Sum Nat Ty} {f : Ty → Sum Nat Ty} {B : Ty} (h : tbd a f = .inr B) : ∃ A, a = .inr A ∧ f A = .inr B := by sorry
theorem TE.lam {Γ : List Ty} {Δ : List (Nat × Ty × Nat)} {p : Nat} {A : Ty} (h : TE Γ Δ) (hA : ok Γ.length A = true) (hl : (flat A).length ≤ 16) : TE Γ ((p, A, Γ.length) :: Δ) := by sorry
theorem TE.all {Γ : List Ty} {Δ : List (Nat × Ty × Nat)} {A : Ty} (h : TE Γ Δ) (hA : ok Γ.length A = true) (hl : (flat A).length ≤ 16) : TE (A :: Γ) Δ := by sorry
theorem tyF_ok : ∀ (f : Nat) (t : Ty) (Γ : List Ty) (Δ : List (Nat × Ty × Nat)) (A : Ty), TWf f Γ.length (Δ.map (fun a => a.1)) t → TE Γ Δ → tyF f t Γ Δ = .inr A → ok Γ.length A = true ∧ (flat A).length ≤ 16 := by sorry
end
