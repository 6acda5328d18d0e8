/-! what a call needs of the method that it calls -/
noncomputable def xmSl0 : List Nat := [1, 0, 0, 0, 0, 2, 2, 2, 2, 2, 0, 2, 2, 2, 2, 2, 2, 2, 2, 2, 2, 0, 2, 2, 2, 2, 2, 2, 2, 2, 2, 2, 2, 0, 2, 2, 2, 2, 2, 2, 2, 2, 2, 1, 1, 2, 2, 2, 1, 1, 0, 2, 2, 2, 0, 2, 2, 2, 2, 2, 2, 2, 2, 2, 0, 2, 2, 2, 2, 0, 2, 2, 2, 2, 2, 2, 2, 2, 2, 2, 2, 0, 2, 2, 2, 2, 2, 2, 2, 2, 2, 2, 2, 2, 2, 2, 2, 2, 2, 2, 2, 2, 2, 2, 2, 2, 2, 2, 2, 2, 2, 2, 2, 2, 2, 2, 2, 2, 1, 2, 2, 2, 2, 2, 2, 2, 1, 1, 1, 1, 1, 1, 1, 1, 1, 1, 1]
noncomputable def xmSl1 : List Nat := [0, 1, 1, 2, 2, 2, 2, 2, 1, 1, 1, 2, 2, 2, 2, 2, 2, 2, 1, 1, 2, 2, 2, 2, 2, 2, 2, 2, 2, 2, 2, 2, 2, 2, 2, 2, 2, 2, 2, 2, 2, 1, 2, 2, 2, 2, 2, 2, 1, 2, 2, 2, 2, 2, 2, 2, 2, 2, 2, 2, 2, 2, 2, 2, 2, 2, 2, 2, 2, 2, 2, 2]
noncomputable def xmS (k : Nat) : Nat := cond (Nat.ble 200 k) (xmSl1.getD (k - 200) 0) (xmSl0.getD k 0)
noncomputable def xmil0 : List Nat := [176, 622, 534, 494, 340, 414, 721, 749, 836, 846, 315, 792, 797, 841, 805, 826, 830, 814, 810, 818, 822, 107, 446, 450, 459, 483, 478, 502, 498, 470, 474, 487, 491, 266, 410, 648, 941, 725, 740, 666, 697, 736, 753, 756, 760, 744, 671, 652, 661, 274, 123, 402, 630, 964, 172, 596, 921, 602, 976, 693, 613, 618, 886, 786, 237, 644, 246, 253, 242, 129, 397, 968, 134, 147, 422, 656, 702, 437, 429, 890, 989, 99, 393, 418, 433, 442, 455, 463, 592, 609, 626, 635, 675, 682, 706, 710, 851, 855, 878, 909, 925, 945, 956, 981, 985, 639, 689, 714, 732, 859, 863, 868, 873, 894, 882, 898, 903, 949, 952, 913, 917, 929, 933, 937, 960, 406, 685, 466, 717, 728, 249, 150, 971, 137, 140, 143, 678]
noncomputable def xmil1 : List Nat := [994, 1147, 1211, 1003, 1007, 999, 1160, 1156, 1164, 1171, 1265, 1143, 1152, 1168, 1175, 1181, 1195, 1189, 1204, 1329, 1201, 1185, 1208, 1224, 1220, 1216, 1228, 1242, 1254, 1258, 1250, 1246, 1238, 1234, 1262, 1277, 1273, 1269, 1281, 1297, 1309, 1305, 1301, 1313, 1293, 1318, 1326, 1322, 1288, 1285, 1333, 1342, 1354, 1350, 1346, 1358, 1337, 1366, 1370, 1362, 1382, 1378, 1374, 1394, 1390, 1386, 1398, 1410, 1406, 1402, 1414, 1418]
noncomputable def xmi (k : Nat) : Nat := cond (Nat.ble 200 k) (xmil1.getD (k - 200) 0) (xmil0.getD k 0)
noncomputable def xmjl0 : List Nat := [83, 89, 89, 89, 87, 87, 87, 87, 87, 87, 86, 86, 86, 86, 86, 86, 86, 86, 86, 86, 86, 79, 79, 79, 79, 79, 79, 79, 79, 79, 79, 79, 79, 85, 85, 85, 85, 85, 85, 85, 85, 85, 85, 85, 85, 85, 85, 85, 85, 85, 80, 80, 80, 80, 82, 82, 82, 82, 82, 82, 82, 82, 82, 82, 84, 84, 84, 84, 84, 81, 81, 81, 81, 81, 81, 81, 81, 81, 81, 81, 81, 78, 78, 78, 78, 78, 78, 78, 78, 78, 78, 78, 78, 78, 78, 78, 78, 78, 78, 78, 78, 78, 78, 78, 78, 78, 78, 78, 78, 78, 78, 78, 78, 78, 78, 78, 78, 78, 78, 78, 78, 78, 78, 78, 78, 78, 78, 78, 78, 78, 78, 78, 78, 78, 78, 78, 78]
noncomputable def xmjl1 : List Nat := [88, 88, 88, 88, 88, 88, 88, 88, 88, 88, 88, 88, 88, 88, 88, 88, 88, 88, 88, 88, 88, 88, 88, 88, 88, 88, 88, 88, 88, 88, 88, 88, 88, 88, 88, 88, 88, 88, 88, 88, 88, 88, 88, 88, 88, 88, 88, 88, 88, 88, 88, 88, 88, 88, 88, 88, 88, 88, 88, 88, 88, 88, 88, 88, 88, 88, 88, 88, 88, 88, 88, 88]
noncomputable def xmj (k : Nat) : Nat := cond (Nat.ble 200 k) (xmjl1.getD (k - 200) 0) (xmjl0.getD k 0)
noncomputable def xmal0 : List Nat := [175, 0, 0, 0, 339, 412, 719, 747, 834, 844, 314, 790, 795, 840, 804, 825, 829, 813, 809, 817, 821, 106, 444, 448, 457, 481, 476, 500, 496, 468, 473, 486, 490, 265, 408, 646, 939, 723, 738, 664, 695, 734, 751, 755, 759, 743, 670, 651, 660, 273, 122, 400, 628, 962, 171, 594, 919, 601, 974, 691, 611, 616, 884, 784, 236, 642, 244, 252, 241, 128, 395, 966, 133, 145, 420, 654, 700, 435, 427, 888, 987, 98, 391, 416, 431, 440, 453, 461, 590, 607, 624, 633, 673, 680, 704, 708, 849, 853, 876, 907, 923, 943, 954, 979, 983, 638, 688, 713, 731, 858, 862, 867, 872, 893, 881, 897, 902, 948, 951, 912, 916, 928, 932, 936, 959, 405, 684, 465, 716, 727, 248, 149, 970, 136, 139, 142, 677]
noncomputable def xmal1 : List Nat := [993, 1146, 1210, 1002, 1006, 998, 1159, 1155, 1163, 1170, 1264, 1141, 1150, 1166, 1173, 1179, 1194, 1188, 1203, 1328, 1200, 1183, 1206, 1223, 1219, 1214, 1226, 1241, 1253, 1257, 1249, 1245, 1237, 1232, 1260, 1276, 1272, 1267, 1279, 1296, 1308, 1304, 1300, 1312, 1292, 1317, 1325, 1321, 1287, 1283, 1331, 1341, 1353, 1349, 1345, 1357, 1335, 1365, 1369, 1360, 1381, 1377, 1372, 1393, 1389, 1384, 1396, 1409, 1405, 1400, 1412, 1416]
noncomputable def xma (k : Nat) : Nat := cond (Nat.ble 200 k) (xmal1.getD (k - 200) 0) (xmal0.getD k 0)
noncomputable def xmbl0 : List Nat := [0, 0, 0, 0, 0, 413, 720, 748, 835, 845, 0, 791, 796, 22, 15, 20, 21, 17, 16, 18, 19, 0, 445, 449, 458, 482, 477, 501, 497, 469, 4, 5, 6, 0, 409, 647, 940, 724, 739, 665, 696, 735, 752, 0, 0, 14, 10, 9, 0, 0, 0, 401, 629, 963, 0, 595, 920, 7, 975, 692, 612, 617, 885, 785, 0, 643, 245, 2, 1, 0, 396, 967, 0, 146, 421, 655, 701, 436, 428, 889, 988, 0, 392, 417, 432, 441, 454, 462, 591, 608, 625, 634, 674, 681, 705, 709, 850, 854, 877, 908, 924, 944, 955, 980, 984, 8, 11, 12, 13, 23, 24, 25, 26, 28, 27, 29, 30, 36, 0, 31, 32, 33, 34, 35, 37, 3, 0, 0, 0, 0, 0, 0, 0, 0, 0, 0, 0]
noncomputable def xmbl1 : List Nat := [0, 0, 0, 39, 40, 38, 42, 41, 0, 0, 0, 1142, 1151, 1167, 1174, 1180, 44, 43, 0, 0, 45, 1184, 1207, 47, 46, 1215, 1227, 49, 52, 53, 51, 50, 48, 1233, 1261, 55, 54, 1268, 1280, 57, 59, 0, 58, 60, 56, 61, 63, 62, 0, 1284, 1332, 64, 67, 66, 65, 68, 1336, 69, 70, 1361, 72, 71, 1373, 74, 73, 1385, 1397, 76, 75, 1401, 1413, 1417]
noncomputable def xmb (k : Nat) : Nat := cond (Nat.ble 200 k) (xmbl1.getD (k - 200) 0) (xmbl0.getD k 0)
noncomputable def xce (x : Nat) : Bool := Nat.beq (xmS x) 0 || (plainName (xmY x).cls && decide (lw_tbl[xmj x]? = some (Cond.initialized (xmY x).cls)) &&
  decide ((xmY x).cls ≠ "java/lang/invoke/MethodHandle" ∧ (xmY x).cls ≠ "java/lang/invoke/VarHandle") && decide (xmO x = (xmY x).cls) &&
  (match xmS x with
    | 1 => decide (lw_tbl[xma x]? = some (Cond.static (xmY x)))
    | _ => decide (lw_tbl[xma x]? = some (Cond.instanceMethod (xmY x))) && decide (lw_tbl[xmb x]? = some (Cond.selects (xmY x).cls (xmY x) (xmY x))) && decide ((xcl (xmK x)).1 = (xmY x).cls) && Nat.blt (xmK x) 10))
set_option maxRecDepth 100000 in
theorem xce_a : ∀ j, j < 137 → xce j = true := by decide +kernel
set_option maxRecDepth 100000 in
theorem xce_b : ∀ j, j < 72 → xce (200 + j) = true := by decide +kernel
set_option maxRecDepth 100000 in
theorem xcw_0 : lw_tbl[176]? = some (Cond.code (xmY 0) (xmB 0) (xmL 0) (xmR 0)) := rfl
set_option maxRecDepth 100000 in
theorem xcw_1 : lw_tbl[622]? = some (Cond.code (xmY 1) (xmB 1) (xmL 1) (xmR 1)) := rfl
set_option maxRecDepth 100000 in
theorem xcw_2 : lw_tbl[534]? = some (Cond.code (xmY 2) (xmB 2) (xmL 2) (xmR 2)) := rfl
set_option maxRecDepth 100000 in
theorem xcw_3 : lw_tbl[494]? = some (Cond.code (xmY 3) (xmB 3) (xmL 3) (xmR 3)) := rfl
set_option maxRecDepth 100000 in
theorem xcw_4 : lw_tbl[340]? = some (Cond.code (xmY 4) (xmB 4) (xmL 4) (xmR 4)) := rfl
set_option maxRecDepth 100000 in
theorem xcw_5 : lw_tbl[414]? = some (Cond.code (xmY 5) (xmB 5) (xmL 5) (xmR 5)) := rfl
set_option maxRecDepth 100000 in
theorem xcw_6 : lw_tbl[721]? = some (Cond.code (xmY 6) (xmB 6) (xmL 6) (xmR 6)) := rfl
set_option maxRecDepth 100000 in
theorem xcw_7 : lw_tbl[749]? = some (Cond.code (xmY 7) (xmB 7) (xmL 7) (xmR 7)) := rfl
set_option maxRecDepth 100000 in
theorem xcw_8 : lw_tbl[836]? = some (Cond.code (xmY 8) (xmB 8) (xmL 8) (xmR 8)) := rfl
set_option maxRecDepth 100000 in
theorem xcw_9 : lw_tbl[846]? = some (Cond.code (xmY 9) (xmB 9) (xmL 9) (xmR 9)) := rfl
set_option maxRecDepth 100000 in
theorem xcw_10 : lw_tbl[315]? = some (Cond.code (xmY 10) (xmB 10) (xmL 10) (xmR 10)) := rfl
set_option maxRecDepth 100000 in
theorem xcw_11 : lw_tbl[792]? = some (Cond.code (xmY 11) (xmB 11) (xmL 11) (xmR 11)) := rfl
set_option maxRecDepth 100000 in
theorem xcw_12 : lw_tbl[797]? = some (Cond.code (xmY 12) (xmB 12) (xmL 12) (xmR 12)) := rfl
set_option maxRecDepth 100000 in
theorem xcw_13 : lw_tbl[841]? = some (Cond.code (xmY 13) (xmB 13) (xmL 13) (xmR 13)) := rfl
set_option maxRecDepth 100000 in
theorem xcw_14 : lw_tbl[805]? = some (Cond.code (xmY 14) (xmB 14) (xmL 14) (xmR 14)) := rfl
set_option maxRecDepth 100000 in
theorem xcw_15 : lw_tbl[826]? = some (Cond.code (xmY 15) (xmB 15) (xmL 15) (xmR 15)) := rfl
set_option maxRecDepth 100000 in
theorem xcw_16 : lw_tbl[830]? = some (Cond.code (xmY 16) (xmB 16) (xmL 16) (xmR 16)) := rfl
set_option maxRecDepth 100000 in
theorem xcw_17 : lw_tbl[814]? = some (Cond.code (xmY 17) (xmB 17) (xmL 17) (xmR 17)) := rfl
set_option maxRecDepth 100000 in
theorem xcw_18 : lw_tbl[810]? = some (Cond.code (xmY 18) (xmB 18) (xmL 18) (xmR 18)) := rfl
set_option maxRecDepth 100000 in
theorem xcw_19 : lw_tbl[818]? = some (Cond.code (xmY 19) (xmB 19) (xmL 19) (xmR 19)) := rfl
set_option maxRecDepth 100000 in
theorem xcw_20 : lw_tbl[822]? = some (Cond.code (xmY 20) (xmB 20) (xmL 20) (xmR 20)) := rfl
set_option maxRecDepth 100000 in
theorem xcw_21 : lw_tbl[107]? = some (Cond.code (xmY 21) (xmB 21) (xmL 21) (xmR 21)) := rfl
set_option maxRecDepth 100000 in
theorem xcw_22 : lw_tbl[446]? = some (Cond.code (xmY 22) (xmB 22) (xmL 22) (xmR 22)) := rfl
set_option maxRecDepth 100000 in
theorem xcw_23 : lw_tbl[450]? = some (Cond.code (xmY 23) (xmB 23) (xmL 23) (xmR 23)) := rfl
set_option maxRecDepth 100000 in
theorem xcw_24 : lw_tbl[459]? = some (Cond.code (xmY 24) (xmB 24) (xmL 24) (xmR 24)) := rfl
set_option maxRecDepth 100000 in
theorem xcw_25 : lw_tbl[483]? = some (Cond.code (xmY 25) (xmB 25) (xmL 25) (xmR 25)) := rfl
set_option maxRecDepth 100000 in
theorem xcw_26 : lw_tbl[478]? = some (Cond.code (xmY 26) (xmB 26) (xmL 26) (xmR 26)) := rfl
set_option maxRecDepth 100000 in
theorem xcw_27 : lw_tbl[502]? = some (Cond.code (xmY 27) (xmB 27) (xmL 27) (xmR 27)) := rfl
set_option maxRecDepth 100000 in
theorem xcw_28 : lw_tbl[498]? = some (Cond.code (xmY 28) (xmB 28) (xmL 28) (xmR 28)) := rfl
set_option maxRecDepth 100000 in
theorem xcw_29 : lw_tbl[470]? = some (Cond.code (xmY 29) (xmB 29) (xmL 29) (xmR 29)) := rfl
set_option maxRecDepth 100000 in
theorem xcw_30 : lw_tbl[474]? = some (Cond.code (xmY 30) (xmB 30) (xmL 30) (xmR 30)) := rfl
set_option maxRecDepth 100000 in
theorem xcw_31 : lw_tbl[487]? = some (Cond.code (xmY 31) (xmB 31) (xmL 31) (xmR 31)) := rfl
set_option maxRecDepth 100000 in
theorem xcw_32 : lw_tbl[491]? = some (Cond.code (xmY 32) (xmB 32) (xmL 32) (xmR 32)) := rfl
set_option maxRecDepth 100000 in
theorem xcw_33 : lw_tbl[266]? = some (Cond.code (xmY 33) (xmB 33) (xmL 33) (xmR 33)) := rfl
set_option maxRecDepth 100000 in
theorem xcw_34 : lw_tbl[410]? = some (Cond.code (xmY 34) (xmB 34) (xmL 34) (xmR 34)) := rfl
set_option maxRecDepth 100000 in
theorem xcw_35 : lw_tbl[648]? = some (Cond.code (xmY 35) (xmB 35) (xmL 35) (xmR 35)) := rfl
set_option maxRecDepth 100000 in
theorem xcw_36 : lw_tbl[941]? = some (Cond.code (xmY 36) (xmB 36) (xmL 36) (xmR 36)) := rfl
set_option maxRecDepth 100000 in
theorem xcw_37 : lw_tbl[725]? = some (Cond.code (xmY 37) (xmB 37) (xmL 37) (xmR 37)) := rfl
set_option maxRecDepth 100000 in
theorem xcw_38 : lw_tbl[740]? = some (Cond.code (xmY 38) (xmB 38) (xmL 38) (xmR 38)) := rfl
set_option maxRecDepth 100000 in
theorem xcw_39 : lw_tbl[666]? = some (Cond.code (xmY 39) (xmB 39) (xmL 39) (xmR 39)) := rfl
set_option maxRecDepth 100000 in
theorem xcw_40 : lw_tbl[697]? = some (Cond.code (xmY 40) (xmB 40) (xmL 40) (xmR 40)) := rfl
set_option maxRecDepth 100000 in
theorem xcw_41 : lw_tbl[736]? = some (Cond.code (xmY 41) (xmB 41) (xmL 41) (xmR 41)) := rfl
set_option maxRecDepth 100000 in
theorem xcw_42 : lw_tbl[753]? = some (Cond.code (xmY 42) (xmB 42) (xmL 42) (xmR 42)) := rfl
set_option maxRecDepth 100000 in
theorem xcw_43 : lw_tbl[756]? = some (Cond.code (xmY 43) (xmB 43) (xmL 43) (xmR 43)) := rfl
set_option maxRecDepth 100000 in
theorem xcw_44 : lw_tbl[760]? = some (Cond.code (xmY 44) (xmB 44) (xmL 44) (xmR 44)) := rfl
set_option maxRecDepth 100000 in
theorem xcw_45 : lw_tbl[744]? = some (Cond.code (xmY 45) (xmB 45) (xmL 45) (xmR 45)) := rfl
set_option maxRecDepth 100000 in
theorem xcw_46 : lw_tbl[671]? = some (Cond.code (xmY 46) (xmB 46) (xmL 46) (xmR 46)) := rfl
set_option maxRecDepth 100000 in
theorem xcw_47 : lw_tbl[652]? = some (Cond.code (xmY 47) (xmB 47) (xmL 47) (xmR 47)) := rfl
set_option maxRecDepth 100000 in
theorem xcw_48 : lw_tbl[661]? = some (Cond.code (xmY 48) (xmB 48) (xmL 48) (xmR 48)) := rfl
set_option maxRecDepth 100000 in
theorem xcw_49 : lw_tbl[274]? = some (Cond.code (xmY 49) (xmB 49) (xmL 49) (xmR 49)) := rfl
set_option maxRecDepth 100000 in
theorem xcw_50 : lw_tbl[123]? = some (Cond.code (xmY 50) (xmB 50) (xmL 50) (xmR 50)) := rfl
set_option maxRecDepth 100000 in
theorem xcw_51 : lw_tbl[402]? = some (Cond.code (xmY 51) (xmB 51) (xmL 51) (xmR 51)) := rfl
set_option maxRecDepth 100000 in
theorem xcw_52 : lw_tbl[630]? = some (Cond.code (xmY 52) (xmB 52) (xmL 52) (xmR 52)) := rfl
set_option maxRecDepth 100000 in
theorem xcw_53 : lw_tbl[964]? = some (Cond.code (xmY 53) (xmB 53) (xmL 53) (xmR 53)) := rfl
set_option maxRecDepth 100000 in
theorem xcw_54 : lw_tbl[172]? = some (Cond.code (xmY 54) (xmB 54) (xmL 54) (xmR 54)) := rfl
set_option maxRecDepth 100000 in
theorem xcw_55 : lw_tbl[596]? = some (Cond.code (xmY 55) (xmB 55) (xmL 55) (xmR 55)) := rfl
set_option maxRecDepth 100000 in
theorem xcw_56 : lw_tbl[921]? = some (Cond.code (xmY 56) (xmB 56) (xmL 56) (xmR 56)) := rfl
set_option maxRecDepth 100000 in
theorem xcw_57 : lw_tbl[602]? = some (Cond.code (xmY 57) (xmB 57) (xmL 57) (xmR 57)) := rfl
set_option maxRecDepth 100000 in
theorem xcw_58 : lw_tbl[976]? = some (Cond.code (xmY 58) (xmB 58) (xmL 58) (xmR 58)) := rfl
set_option maxRecDepth 100000 in
theorem xcw_59 : lw_tbl[693]? = some (Cond.code (xmY 59) (xmB 59) (xmL 59) (xmR 59)) := rfl
set_option maxRecDepth 100000 in
theorem xcw_60 : lw_tbl[613]? = some (Cond.code (xmY 60) (xmB 60) (xmL 60) (xmR 60)) := rfl
set_option maxRecDepth 100000 in
theorem xcw_61 : lw_tbl[618]? = some (Cond.code (xmY 61) (xmB 61) (xmL 61) (xmR 61)) := rfl
set_option maxRecDepth 100000 in
theorem xcw_62 : lw_tbl[886]? = some (Cond.code (xmY 62) (xmB 62) (xmL 62) (xmR 62)) := rfl
set_option maxRecDepth 100000 in
theorem xcw_63 : lw_tbl[786]? = some (Cond.code (xmY 63) (xmB 63) (xmL 63) (xmR 63)) := rfl
set_option maxRecDepth 100000 in
theorem xcw_64 : lw_tbl[237]? = some (Cond.code (xmY 64) (xmB 64) (xmL 64) (xmR 64)) := rfl
set_option maxRecDepth 100000 in
theorem xcw_65 : lw_tbl[644]? = some (Cond.code (xmY 65) (xmB 65) (xmL 65) (xmR 65)) := rfl
set_option maxRecDepth 100000 in
theorem xcw_66 : lw_tbl[246]? = some (Cond.code (xmY 66) (xmB 66) (xmL 66) (xmR 66)) := rfl
set_option maxRecDepth 100000 in
theorem xcw_67 : lw_tbl[253]? = some (Cond.code (xmY 67) (xmB 67) (xmL 67) (xmR 67)) := rfl
set_option maxRecDepth 100000 in
theorem xcw_68 : lw_tbl[242]? = some (Cond.code (xmY 68) (xmB 68) (xmL 68) (xmR 68)) := rfl
set_option maxRecDepth 100000 in
theorem xcw_69 : lw_tbl[129]? = some (Cond.code (xmY 69) (xmB 69) (xmL 69) (xmR 69)) := rfl
set_option maxRecDepth 100000 in
theorem xcw_70 : lw_tbl[397]? = some (Cond.code (xmY 70) (xmB 70) (xmL 70) (xmR 70)) := rfl
set_option maxRecDepth 100000 in
theorem xcw_71 : lw_tbl[968]? = some (Cond.code (xmY 71) (xmB 71) (xmL 71) (xmR 71)) := rfl
set_option maxRecDepth 100000 in
theorem xcw_72 : lw_tbl[134]? = some (Cond.code (xmY 72) (xmB 72) (xmL 72) (xmR 72)) := rfl
set_option maxRecDepth 100000 in
theorem xcw_73 : lw_tbl[147]? = some (Cond.code (xmY 73) (xmB 73) (xmL 73) (xmR 73)) := rfl
set_option maxRecDepth 100000 in
theorem xcw_74 : lw_tbl[422]? = some (Cond.code (xmY 74) (xmB 74) (xmL 74) (xmR 74)) := rfl
set_option maxRecDepth 100000 in
theorem xcw_75 : lw_tbl[656]? = some (Cond.code (xmY 75) (xmB 75) (xmL 75) (xmR 75)) := rfl
set_option maxRecDepth 100000 in
theorem xcw_76 : lw_tbl[702]? = some (Cond.code (xmY 76) (xmB 76) (xmL 76) (xmR 76)) := rfl
set_option maxRecDepth 100000 in
theorem xcw_77 : lw_tbl[437]? = some (Cond.code (xmY 77) (xmB 77) (xmL 77) (xmR 77)) := rfl
set_option maxRecDepth 100000 in
theorem xcw_78 : lw_tbl[429]? = some (Cond.code (xmY 78) (xmB 78) (xmL 78) (xmR 78)) := rfl
set_option maxRecDepth 100000 in
theorem xcw_79 : lw_tbl[890]? = some (Cond.code (xmY 79) (xmB 79) (xmL 79) (xmR 79)) := rfl
set_option maxRecDepth 100000 in
theorem xcw_80 : lw_tbl[989]? = some (Cond.code (xmY 80) (xmB 80) (xmL 80) (xmR 80)) := rfl
set_option maxRecDepth 100000 in
theorem xcw_81 : lw_tbl[99]? = some (Cond.code (xmY 81) (xmB 81) (xmL 81) (xmR 81)) := rfl
set_option maxRecDepth 100000 in
theorem xcw_82 : lw_tbl[393]? = some (Cond.code (xmY 82) (xmB 82) (xmL 82) (xmR 82)) := rfl
set_option maxRecDepth 100000 in
theorem xcw_83 : lw_tbl[418]? = some (Cond.code (xmY 83) (xmB 83) (xmL 83) (xmR 83)) := rfl
set_option maxRecDepth 100000 in
theorem xcw_84 : lw_tbl[433]? = some (Cond.code (xmY 84) (xmB 84) (xmL 84) (xmR 84)) := rfl
set_option maxRecDepth 100000 in
theorem xcw_85 : lw_tbl[442]? = some (Cond.code (xmY 85) (xmB 85) (xmL 85) (xmR 85)) := rfl
set_option maxRecDepth 100000 in
theorem xcw_86 : lw_tbl[455]? = some (Cond.code (xmY 86) (xmB 86) (xmL 86) (xmR 86)) := rfl
set_option maxRecDepth 100000 in
theorem xcw_87 : lw_tbl[463]? = some (Cond.code (xmY 87) (xmB 87) (xmL 87) (xmR 87)) := rfl
set_option maxRecDepth 100000 in
theorem xcw_88 : lw_tbl[592]? = some (Cond.code (xmY 88) (xmB 88) (xmL 88) (xmR 88)) := rfl
set_option maxRecDepth 100000 in
theorem xcw_89 : lw_tbl[609]? = some (Cond.code (xmY 89) (xmB 89) (xmL 89) (xmR 89)) := rfl
set_option maxRecDepth 100000 in
theorem xcw_90 : lw_tbl[626]? = some (Cond.code (xmY 90) (xmB 90) (xmL 90) (xmR 90)) := rfl
set_option maxRecDepth 100000 in
theorem xcw_91 : lw_tbl[635]? = some (Cond.code (xmY 91) (xmB 91) (xmL 91) (xmR 91)) := rfl
set_option maxRecDepth 100000 in
theorem xcw_92 : lw_tbl[675]? = some (Cond.code (xmY 92) (xmB 92) (xmL 92) (xmR 92)) := rfl
set_option maxRecDepth 100000 in
theorem xcw_93 : lw_tbl[682]? = some (Cond.code (xmY 93) (xmB 93) (xmL 93) (xmR 93)) := rfl
set_option maxRecDepth 100000 in
theorem xcw_94 : lw_tbl[706]? = some (Cond.code (xmY 94) (xmB 94) (xmL 94) (xmR 94)) := rfl
set_option maxRecDepth 100000 in
theorem xcw_95 : lw_tbl[710]? = some (Cond.code (xmY 95) (xmB 95) (xmL 95) (xmR 95)) := rfl
set_option maxRecDepth 100000 in
theorem xcw_96 : lw_tbl[851]? = some (Cond.code (xmY 96) (xmB 96) (xmL 96) (xmR 96)) := rfl
set_option maxRecDepth 100000 in
theorem xcw_97 : lw_tbl[855]? = some (Cond.code (xmY 97) (xmB 97) (xmL 97) (xmR 97)) := rfl
set_option maxRecDepth 100000 in
theorem xcw_98 : lw_tbl[878]? = some (Cond.code (xmY 98) (xmB 98) (xmL 98) (xmR 98)) := rfl
set_option maxRecDepth 100000 in
theorem xcw_99 : lw_tbl[909]? = some (Cond.code (xmY 99) (xmB 99) (xmL 99) (xmR 99)) := rfl
set_option maxRecDepth 100000 in
theorem xcw_100 : lw_tbl[925]? = some (Cond.code (xmY 100) (xmB 100) (xmL 100) (xmR 100)) := rfl
set_option maxRecDepth 100000 in
theorem xcw_101 : lw_tbl[945]? = some (Cond.code (xmY 101) (xmB 101) (xmL 101) (xmR 101)) := rfl
set_option maxRecDepth 100000 in
theorem xcw_102 : lw_tbl[956]? = some (Cond.code (xmY 102) (xmB 102) (xmL 102) (xmR 102)) := rfl
set_option maxRecDepth 100000 in
theorem xcw_103 : lw_tbl[981]? = some (Cond.code (xmY 103) (xmB 103) (xmL 103) (xmR 103)) := rfl
set_option maxRecDepth 100000 in
theorem xcw_104 : lw_tbl[985]? = some (Cond.code (xmY 104) (xmB 104) (xmL 104) (xmR 104)) := rfl
set_option maxRecDepth 100000 in
theorem xcw_105 : lw_tbl[639]? = some (Cond.code (xmY 105) (xmB 105) (xmL 105) (xmR 105)) := rfl
set_option maxRecDepth 100000 in
theorem xcw_106 : lw_tbl[689]? = some (Cond.code (xmY 106) (xmB 106) (xmL 106) (xmR 106)) := rfl
set_option maxRecDepth 100000 in
theorem xcw_107 : lw_tbl[714]? = some (Cond.code (xmY 107) (xmB 107) (xmL 107) (xmR 107)) := rfl
set_option maxRecDepth 100000 in
theorem xcw_108 : lw_tbl[732]? = some (Cond.code (xmY 108) (xmB 108) (xmL 108) (xmR 108)) := rfl
set_option maxRecDepth 100000 in
theorem xcw_109 : lw_tbl[859]? = some (Cond.code (xmY 109) (xmB 109) (xmL 109) (xmR 109)) := rfl
set_option maxRecDepth 100000 in
theorem xcw_110 : lw_tbl[863]? = some (Cond.code (xmY 110) (xmB 110) (xmL 110) (xmR 110)) := rfl
set_option maxRecDepth 100000 in
theorem xcw_111 : lw_tbl[868]? = some (Cond.code (xmY 111) (xmB 111) (xmL 111) (xmR 111)) := rfl
set_option maxRecDepth 100000 in
theorem xcw_112 : lw_tbl[873]? = some (Cond.code (xmY 112) (xmB 112) (xmL 112) (xmR 112)) := rfl
set_option maxRecDepth 100000 in
theorem xcw_113 : lw_tbl[894]? = some (Cond.code (xmY 113) (xmB 113) (xmL 113) (xmR 113)) := rfl
set_option maxRecDepth 100000 in
theorem xcw_114 : lw_tbl[882]? = some (Cond.code (xmY 114) (xmB 114) (xmL 114) (xmR 114)) := rfl
set_option maxRecDepth 100000 in
theorem xcw_115 : lw_tbl[898]? = some (Cond.code (xmY 115) (xmB 115) (xmL 115) (xmR 115)) := rfl
set_option maxRecDepth 100000 in
theorem xcw_116 : lw_tbl[903]? = some (Cond.code (xmY 116) (xmB 116) (xmL 116) (xmR 116)) := rfl
set_option maxRecDepth 100000 in
theorem xcw_117 : lw_tbl[949]? = some (Cond.code (xmY 117) (xmB 117) (xmL 117) (xmR 117)) := rfl
set_option maxRecDepth 100000 in
theorem xcw_118 : lw_tbl[952]? = some (Cond.code (xmY 118) (xmB 118) (xmL 118) (xmR 118)) := rfl
set_option maxRecDepth 100000 in
theorem xcw_119 : lw_tbl[913]? = some (Cond.code (xmY 119) (xmB 119) (xmL 119) (xmR 119)) := rfl
set_option maxRecDepth 100000 in
theorem xcw_120 : lw_tbl[917]? = some (Cond.code (xmY 120) (xmB 120) (xmL 120) (xmR 120)) := rfl
set_option maxRecDepth 100000 in
theorem xcw_121 : lw_tbl[929]? = some (Cond.code (xmY 121) (xmB 121) (xmL 121) (xmR 121)) := rfl
set_option maxRecDepth 100000 in
theorem xcw_122 : lw_tbl[933]? = some (Cond.code (xmY 122) (xmB 122) (xmL 122) (xmR 122)) := rfl
set_option maxRecDepth 100000 in
theorem xcw_123 : lw_tbl[937]? = some (Cond.code (xmY 123) (xmB 123) (xmL 123) (xmR 123)) := rfl
set_option maxRecDepth 100000 in
theorem xcw_124 : lw_tbl[960]? = some (Cond.code (xmY 124) (xmB 124) (xmL 124) (xmR 124)) := rfl
set_option maxRecDepth 100000 in
theorem xcw_125 : lw_tbl[406]? = some (Cond.code (xmY 125) (xmB 125) (xmL 125) (xmR 125)) := rfl
set_option maxRecDepth 100000 in
theorem xcw_126 : lw_tbl[685]? = some (Cond.code (xmY 126) (xmB 126) (xmL 126) (xmR 126)) := rfl
set_option maxRecDepth 100000 in
theorem xcw_127 : lw_tbl[466]? = some (Cond.code (xmY 127) (xmB 127) (xmL 127) (xmR 127)) := rfl
set_option maxRecDepth 100000 in
theorem xcw_128 : lw_tbl[717]? = some (Cond.code (xmY 128) (xmB 128) (xmL 128) (xmR 128)) := rfl
set_option maxRecDepth 100000 in
theorem xcw_129 : lw_tbl[728]? = some (Cond.code (xmY 129) (xmB 129) (xmL 129) (xmR 129)) := rfl
set_option maxRecDepth 100000 in
theorem xcw_130 : lw_tbl[249]? = some (Cond.code (xmY 130) (xmB 130) (xmL 130) (xmR 130)) := rfl
set_option maxRecDepth 100000 in
theorem xcw_131 : lw_tbl[150]? = some (Cond.code (xmY 131) (xmB 131) (xmL 131) (xmR 131)) := rfl
set_option maxRecDepth 100000 in
theorem xcw_132 : lw_tbl[971]? = some (Cond.code (xmY 132) (xmB 132) (xmL 132) (xmR 132)) := rfl
set_option maxRecDepth 100000 in
theorem xcw_133 : lw_tbl[137]? = some (Cond.code (xmY 133) (xmB 133) (xmL 133) (xmR 133)) := rfl
set_option maxRecDepth 100000 in
theorem xcw_134 : lw_tbl[140]? = some (Cond.code (xmY 134) (xmB 134) (xmL 134) (xmR 134)) := rfl
set_option maxRecDepth 100000 in
theorem xcw_135 : lw_tbl[143]? = some (Cond.code (xmY 135) (xmB 135) (xmL 135) (xmR 135)) := rfl
set_option maxRecDepth 100000 in
theorem xcw_136 : lw_tbl[678]? = some (Cond.code (xmY 136) (xmB 136) (xmL 136) (xmR 136)) := rfl
set_option maxRecDepth 100000 in
theorem xcw_200 : lw_tbl[994]? = some (Cond.code (xmY 200) (xmB 200) (xmL 200) (xmR 200)) := rfl
set_option maxRecDepth 100000 in
theorem xcw_201 : lw_tbl[1147]? = some (Cond.code (xmY 201) (xmB 201) (xmL 201) (xmR 201)) := rfl
set_option maxRecDepth 100000 in
theorem xcw_202 : lw_tbl[1211]? = some (Cond.code (xmY 202) (xmB 202) (xmL 202) (xmR 202)) := rfl
set_option maxRecDepth 100000 in
theorem xcw_203 : lw_tbl[1003]? = some (Cond.code (xmY 203) (xmB 203) (xmL 203) (xmR 203)) := rfl
set_option maxRecDepth 100000 in
theorem xcw_204 : lw_tbl[1007]? = some (Cond.code (xmY 204) (xmB 204) (xmL 204) (xmR 204)) := rfl
set_option maxRecDepth 100000 in
theorem xcw_205 : lw_tbl[999]? = some (Cond.code (xmY 205) (xmB 205) (xmL 205) (xmR 205)) := rfl
set_option maxRecDepth 100000 in
theorem xcw_206 : lw_tbl[1160]? = some (Cond.code (xmY 206) (xmB 206) (xmL 206) (xmR 206)) := rfl
set_option maxRecDepth 100000 in
theorem xcw_207 : lw_tbl[1156]? = some (Cond.code (xmY 207) (xmB 207) (xmL 207) (xmR 207)) := rfl
set_option maxRecDepth 100000 in
theorem xcw_208 : lw_tbl[1164]? = some (Cond.code (xmY 208) (xmB 208) (xmL 208) (xmR 208)) := rfl
set_option maxRecDepth 100000 in
theorem xcw_209 : lw_tbl[1171]? = some (Cond.code (xmY 209) (xmB 209) (xmL 209) (xmR 209)) := rfl
set_option maxRecDepth 100000 in
theorem xcw_210 : lw_tbl[1265]? = some (Cond.code (xmY 210) (xmB 210) (xmL 210) (xmR 210)) := rfl
set_option maxRecDepth 100000 in
theorem xcw_211 : lw_tbl[1143]? = some (Cond.code (xmY 211) (xmB 211) (xmL 211) (xmR 211)) := rfl
set_option maxRecDepth 100000 in
theorem xcw_212 : lw_tbl[1152]? = some (Cond.code (xmY 212) (xmB 212) (xmL 212) (xmR 212)) := rfl
set_option maxRecDepth 100000 in
theorem xcw_213 : lw_tbl[1168]? = some (Cond.code (xmY 213) (xmB 213) (xmL 213) (xmR 213)) := rfl
set_option maxRecDepth 100000 in
theorem xcw_214 : lw_tbl[1175]? = some (Cond.code (xmY 214) (xmB 214) (xmL 214) (xmR 214)) := rfl
set_option maxRecDepth 100000 in
theorem xcw_215 : lw_tbl[1181]? = some (Cond.code (xmY 215) (xmB 215) (xmL 215) (xmR 215)) := rfl
set_option maxRecDepth 100000 in
theorem xcw_216 : lw_tbl[1195]? = some (Cond.code (xmY 216) (xmB 216) (xmL 216) (xmR 216)) := rfl
set_option maxRecDepth 100000 in
theorem xcw_217 : lw_tbl[1189]? = some (Cond.code (xmY 217) (xmB 217) (xmL 217) (xmR 217)) := rfl
set_option maxRecDepth 100000 in
theorem xcw_218 : lw_tbl[1204]? = some (Cond.code (xmY 218) (xmB 218) (xmL 218) (xmR 218)) := rfl
set_option maxRecDepth 100000 in
theorem xcw_219 : lw_tbl[1329]? = some (Cond.code (xmY 219) (xmB 219) (xmL 219) (xmR 219)) := rfl
set_option maxRecDepth 100000 in
theorem xcw_220 : lw_tbl[1201]? = some (Cond.code (xmY 220) (xmB 220) (xmL 220) (xmR 220)) := rfl
set_option maxRecDepth 100000 in
theorem xcw_221 : lw_tbl[1185]? = some (Cond.code (xmY 221) (xmB 221) (xmL 221) (xmR 221)) := rfl
set_option maxRecDepth 100000 in
theorem xcw_222 : lw_tbl[1208]? = some (Cond.code (xmY 222) (xmB 222) (xmL 222) (xmR 222)) := rfl
set_option maxRecDepth 100000 in
theorem xcw_223 : lw_tbl[1224]? = some (Cond.code (xmY 223) (xmB 223) (xmL 223) (xmR 223)) := rfl
set_option maxRecDepth 100000 in
theorem xcw_224 : lw_tbl[1220]? = some (Cond.code (xmY 224) (xmB 224) (xmL 224) (xmR 224)) := rfl
set_option maxRecDepth 100000 in
theorem xcw_225 : lw_tbl[1216]? = some (Cond.code (xmY 225) (xmB 225) (xmL 225) (xmR 225)) := rfl
set_option maxRecDepth 100000 in
theorem xcw_226 : lw_tbl[1228]? = some (Cond.code (xmY 226) (xmB 226) (xmL 226) (xmR 226)) := rfl
set_option maxRecDepth 100000 in
theorem xcw_227 : lw_tbl[1242]? = some (Cond.code (xmY 227) (xmB 227) (xmL 227) (xmR 227)) := rfl
set_option maxRecDepth 100000 in
theorem xcw_228 : lw_tbl[1254]? = some (Cond.code (xmY 228) (xmB 228) (xmL 228) (xmR 228)) := rfl
set_option maxRecDepth 100000 in
theorem xcw_229 : lw_tbl[1258]? = some (Cond.code (xmY 229) (xmB 229) (xmL 229) (xmR 229)) := rfl
set_option maxRecDepth 100000 in
theorem xcw_230 : lw_tbl[1250]? = some (Cond.code (xmY 230) (xmB 230) (xmL 230) (xmR 230)) := rfl
set_option maxRecDepth 100000 in
theorem xcw_231 : lw_tbl[1246]? = some (Cond.code (xmY 231) (xmB 231) (xmL 231) (xmR 231)) := rfl
set_option maxRecDepth 100000 in
theorem xcw_232 : lw_tbl[1238]? = some (Cond.code (xmY 232) (xmB 232) (xmL 232) (xmR 232)) := rfl
set_option maxRecDepth 100000 in
theorem xcw_233 : lw_tbl[1234]? = some (Cond.code (xmY 233) (xmB 233) (xmL 233) (xmR 233)) := rfl
set_option maxRecDepth 100000 in
theorem xcw_234 : lw_tbl[1262]? = some (Cond.code (xmY 234) (xmB 234) (xmL 234) (xmR 234)) := rfl
set_option maxRecDepth 100000 in
theorem xcw_235 : lw_tbl[1277]? = some (Cond.code (xmY 235) (xmB 235) (xmL 235) (xmR 235)) := rfl
set_option maxRecDepth 100000 in
theorem xcw_236 : lw_tbl[1273]? = some (Cond.code (xmY 236) (xmB 236) (xmL 236) (xmR 236)) := rfl
set_option maxRecDepth 100000 in
theorem xcw_237 : lw_tbl[1269]? = some (Cond.code (xmY 237) (xmB 237) (xmL 237) (xmR 237)) := rfl
set_option maxRecDepth 100000 in
theorem xcw_238 : lw_tbl[1281]? = some (Cond.code (xmY 238) (xmB 238) (xmL 238) (xmR 238)) := rfl
set_option maxRecDepth 100000 in
theorem xcw_239 : lw_tbl[1297]? = some (Cond.code (xmY 239) (xmB 239) (xmL 239) (xmR 239)) := rfl
set_option maxRecDepth 100000 in
theorem xcw_240 : lw_tbl[1309]? = some (Cond.code (xmY 240) (xmB 240) (xmL 240) (xmR 240)) := rfl
set_option maxRecDepth 100000 in
theorem xcw_241 : lw_tbl[1305]? = some (Cond.code (xmY 241) (xmB 241) (xmL 241) (xmR 241)) := rfl
set_option maxRecDepth 100000 in
theorem xcw_242 : lw_tbl[1301]? = some (Cond.code (xmY 242) (xmB 242) (xmL 242) (xmR 242)) := rfl
set_option maxRecDepth 100000 in
theorem xcw_243 : lw_tbl[1313]? = some (Cond.code (xmY 243) (xmB 243) (xmL 243) (xmR 243)) := rfl
set_option maxRecDepth 100000 in
theorem xcw_244 : lw_tbl[1293]? = some (Cond.code (xmY 244) (xmB 244) (xmL 244) (xmR 244)) := rfl
set_option maxRecDepth 100000 in
theorem xcw_245 : lw_tbl[1318]? = some (Cond.code (xmY 245) (xmB 245) (xmL 245) (xmR 245)) := rfl
set_option maxRecDepth 100000 in
theorem xcw_246 : lw_tbl[1326]? = some (Cond.code (xmY 246) (xmB 246) (xmL 246) (xmR 246)) := rfl
set_option maxRecDepth 100000 in
theorem xcw_247 : lw_tbl[1322]? = some (Cond.code (xmY 247) (xmB 247) (xmL 247) (xmR 247)) := rfl
set_option maxRecDepth 100000 in
theorem xcw_248 : lw_tbl[1288]? = some (Cond.code (xmY 248) (xmB 248) (xmL 248) (xmR 248)) := rfl
set_option maxRecDepth 100000 in
theorem xcw_249 : lw_tbl[1285]? = some (Cond.code (xmY 249) (xmB 249) (xmL 249) (xmR 249)) := rfl
set_option maxRecDepth 100000 in
theorem xcw_250 : lw_tbl[1333]? = some (Cond.code (xmY 250) (xmB 250) (xmL 250) (xmR 250)) := rfl
set_option maxRecDepth 100000 in
theorem xcw_251 : lw_tbl[1342]? = some (Cond.code (xmY 251) (xmB 251) (xmL 251) (xmR 251)) := rfl
set_option maxRecDepth 100000 in
theorem xcw_252 : lw_tbl[1354]? = some (Cond.code (xmY 252) (xmB 252) (xmL 252) (xmR 252)) := rfl
set_option maxRecDepth 100000 in
theorem xcw_253 : lw_tbl[1350]? = some (Cond.code (xmY 253) (xmB 253) (xmL 253) (xmR 253)) := rfl
set_option maxRecDepth 100000 in
theorem xcw_254 : lw_tbl[1346]? = some (Cond.code (xmY 254) (xmB 254) (xmL 254) (xmR 254)) := rfl
set_option maxRecDepth 100000 in
theorem xcw_255 : lw_tbl[1358]? = some (Cond.code (xmY 255) (xmB 255) (xmL 255) (xmR 255)) := rfl
set_option maxRecDepth 100000 in
theorem xcw_256 : lw_tbl[1337]? = some (Cond.code (xmY 256) (xmB 256) (xmL 256) (xmR 256)) := rfl
set_option maxRecDepth 100000 in
theorem xcw_257 : lw_tbl[1366]? = some (Cond.code (xmY 257) (xmB 257) (xmL 257) (xmR 257)) := rfl
set_option maxRecDepth 100000 in
theorem xcw_258 : lw_tbl[1370]? = some (Cond.code (xmY 258) (xmB 258) (xmL 258) (xmR 258)) := rfl
set_option maxRecDepth 100000 in
theorem xcw_259 : lw_tbl[1362]? = some (Cond.code (xmY 259) (xmB 259) (xmL 259) (xmR 259)) := rfl
set_option maxRecDepth 100000 in
theorem xcw_260 : lw_tbl[1382]? = some (Cond.code (xmY 260) (xmB 260) (xmL 260) (xmR 260)) := rfl
set_option maxRecDepth 100000 in
theorem xcw_261 : lw_tbl[1378]? = some (Cond.code (xmY 261) (xmB 261) (xmL 261) (xmR 261)) := rfl
set_option maxRecDepth 100000 in
theorem xcw_262 : lw_tbl[1374]? = some (Cond.code (xmY 262) (xmB 262) (xmL 262) (xmR 262)) := rfl
set_option maxRecDepth 100000 in
theorem xcw_263 : lw_tbl[1394]? = some (Cond.code (xmY 263) (xmB 263) (xmL 263) (xmR 263)) := rfl
set_option maxRecDepth 100000 in
theorem xcw_264 : lw_tbl[1390]? = some (Cond.code (xmY 264) (xmB 264) (xmL 264) (xmR 264)) := rfl
set_option maxRecDepth 100000 in
theorem xcw_265 : lw_tbl[1386]? = some (Cond.code (xmY 265) (xmB 265) (xmL 265) (xmR 265)) := rfl
set_option maxRecDepth 100000 in
theorem xcw_266 : lw_tbl[1398]? = some (Cond.code (xmY 266) (xmB 266) (xmL 266) (xmR 266)) := rfl
set_option maxRecDepth 100000 in
theorem xcw_267 : lw_tbl[1410]? = some (Cond.code (xmY 267) (xmB 267) (xmL 267) (xmR 267)) := rfl
set_option maxRecDepth 100000 in
theorem xcw_268 : lw_tbl[1406]? = some (Cond.code (xmY 268) (xmB 268) (xmL 268) (xmR 268)) := rfl
set_option maxRecDepth 100000 in
theorem xcw_269 : lw_tbl[1402]? = some (Cond.code (xmY 269) (xmB 269) (xmL 269) (xmR 269)) := rfl
set_option maxRecDepth 100000 in
theorem xcw_270 : lw_tbl[1414]? = some (Cond.code (xmY 270) (xmB 270) (xmL 270) (xmR 270)) := rfl
set_option maxRecDepth 100000 in
theorem xcw_271 : lw_tbl[1418]? = some (Cond.code (xmY 271) (xmB 271) (xmL 271) (xmR 271)) := rfl
theorem xcv_0 : ∀ x ∈ [0, 1, 2, 3, 4, 5, 6, 7, 8, 9, 10, 11, 12, 13, 14, 15, 16, 17, 18, 19, 20, 21, 22, 23, 24, 25, 26, 27, 28, 29, 30, 31, 32, 33, 34, 35, 36, 37, 38, 39], Cond.code (xmY x) (xmB x) (xmL x) (xmR x) ∈ xw := List.forall_mem_cons.mpr ⟨xw_in xcw_0 rfl, List.forall_mem_cons.mpr ⟨xw_in xcw_1 rfl, List.forall_mem_cons.mpr ⟨xw_in xcw_2 rfl, List.forall_mem_cons.mpr ⟨xw_in xcw_3 rfl, List.forall_mem_cons.mpr ⟨xw_in xcw_4 rfl, List.forall_mem_cons.mpr ⟨xw_in xcw_5 rfl, List.forall_mem_cons.mpr ⟨xw_in xcw_6 rfl, List.forall_mem_cons.mpr ⟨xw_in xcw_7 rfl, List.forall_mem_cons.mpr ⟨xw_in xcw_8 rfl, List.forall_mem_cons.mpr ⟨xw_in xcw_9 rfl, List.forall_mem_cons.mpr ⟨xw_in xcw_10 rfl, List.forall_mem_cons.mpr ⟨xw_in xcw_11 rfl, List.forall_mem_cons.mpr ⟨xw_in xcw_12 rfl, List.forall_mem_cons.mpr ⟨xw_in xcw_13 rfl, List.forall_mem_cons.mpr ⟨xw_in xcw_14 rfl, List.forall_mem_cons.mpr ⟨xw_in xcw_15 rfl, List.forall_mem_cons.mpr ⟨xw_in xcw_16 rfl, List.forall_mem_cons.mpr ⟨xw_in xcw_17 rfl, List.forall_mem_cons.mpr ⟨xw_in xcw_18 rfl, List.forall_mem_cons.mpr ⟨xw_in xcw_19 rfl, List.forall_mem_cons.mpr ⟨xw_in xcw_20 rfl, List.forall_mem_cons.mpr ⟨xw_in xcw_21 rfl, List.forall_mem_cons.mpr ⟨xw_in xcw_22 rfl, List.forall_mem_cons.mpr ⟨xw_in xcw_23 rfl, List.forall_mem_cons.mpr ⟨xw_in xcw_24 rfl, List.forall_mem_cons.mpr ⟨xw_in xcw_25 rfl, List.forall_mem_cons.mpr ⟨xw_in xcw_26 rfl, List.forall_mem_cons.mpr ⟨xw_in xcw_27 rfl, List.forall_mem_cons.mpr ⟨xw_in xcw_28 rfl, List.forall_mem_cons.mpr ⟨xw_in xcw_29 rfl, List.forall_mem_cons.mpr ⟨xw_in xcw_30 rfl, List.forall_mem_cons.mpr ⟨xw_in xcw_31 rfl, List.forall_mem_cons.mpr ⟨xw_in xcw_32 rfl, List.forall_mem_cons.mpr ⟨xw_in xcw_33 rfl, List.forall_mem_cons.mpr ⟨xw_in xcw_34 rfl, List.forall_mem_cons.mpr ⟨xw_in xcw_35 rfl, List.forall_mem_cons.mpr ⟨xw_in xcw_36 rfl, List.forall_mem_cons.mpr ⟨xw_in xcw_37 rfl, List.forall_mem_cons.mpr ⟨xw_in xcw_38 rfl, List.forall_mem_cons.mpr ⟨xw_in xcw_39 rfl, fun _ h => absurd h List.not_mem_nil⟩⟩⟩⟩⟩⟩⟩⟩⟩⟩⟩⟩⟩⟩⟩⟩⟩⟩⟩⟩⟩⟩⟩⟩⟩⟩⟩⟩⟩⟩⟩⟩⟩⟩⟩⟩⟩⟩⟩⟩
theorem xcv_40 : ∀ x ∈ [40, 41, 42, 43, 44, 45, 46, 47, 48, 49, 50, 51, 52, 53, 54, 55, 56, 57, 58, 59, 60, 61, 62, 63, 64, 65, 66, 67, 68, 69, 70, 71, 72, 73, 74, 75, 76, 77, 78, 79], Cond.code (xmY x) (xmB x) (xmL x) (xmR x) ∈ xw := List.forall_mem_cons.mpr ⟨xw_in xcw_40 rfl, List.forall_mem_cons.mpr ⟨xw_in xcw_41 rfl, List.forall_mem_cons.mpr ⟨xw_in xcw_42 rfl, List.forall_mem_cons.mpr ⟨xw_in xcw_43 rfl, List.forall_mem_cons.mpr ⟨xw_in xcw_44 rfl, List.forall_mem_cons.mpr ⟨xw_in xcw_45 rfl, List.forall_mem_cons.mpr ⟨xw_in xcw_46 rfl, List.forall_mem_cons.mpr ⟨xw_in xcw_47 rfl, List.forall_mem_cons.mpr ⟨xw_in xcw_48 rfl, List.forall_mem_cons.mpr ⟨xw_in xcw_49 rfl, List.forall_mem_cons.mpr ⟨xw_in xcw_50 rfl, List.forall_mem_cons.mpr ⟨xw_in xcw_51 rfl, List.forall_mem_cons.mpr ⟨xw_in xcw_52 rfl, List.forall_mem_cons.mpr ⟨xw_in xcw_53 rfl, List.forall_mem_cons.mpr ⟨xw_in xcw_54 rfl, List.forall_mem_cons.mpr ⟨xw_in xcw_55 rfl, List.forall_mem_cons.mpr ⟨xw_in xcw_56 rfl, List.forall_mem_cons.mpr ⟨xw_in xcw_57 rfl, List.forall_mem_cons.mpr ⟨xw_in xcw_58 rfl, List.forall_mem_cons.mpr ⟨xw_in xcw_59 rfl, List.forall_mem_cons.mpr ⟨xw_in xcw_60 rfl, List.forall_mem_cons.mpr ⟨xw_in xcw_61 rfl, List.forall_mem_cons.mpr ⟨xw_in xcw_62 rfl, List.forall_mem_cons.mpr ⟨xw_in xcw_63 rfl, List.forall_mem_cons.mpr ⟨xw_in xcw_64 rfl, List.forall_mem_cons.mpr ⟨xw_in xcw_65 rfl, List.forall_mem_cons.mpr ⟨xw_in xcw_66 rfl, List.forall_mem_cons.mpr ⟨xw_in xcw_67 rfl, List.forall_mem_cons.mpr ⟨xw_in xcw_68 rfl, List.forall_mem_cons.mpr ⟨xw_in xcw_69 rfl, List.forall_mem_cons.mpr ⟨xw_in xcw_70 rfl, List.forall_mem_cons.mpr ⟨xw_in xcw_71 rfl, List.forall_mem_cons.mpr ⟨xw_in xcw_72 rfl, List.forall_mem_cons.mpr ⟨xw_in xcw_73 rfl, List.forall_mem_cons.mpr ⟨xw_in xcw_74 rfl, List.forall_mem_cons.mpr ⟨xw_in xcw_75 rfl, List.forall_mem_cons.mpr ⟨xw_in xcw_76 rfl, List.forall_mem_cons.mpr ⟨xw_in xcw_77 rfl, List.forall_mem_cons.mpr ⟨xw_in xcw_78 rfl, List.forall_mem_cons.mpr ⟨xw_in xcw_79 rfl, fun _ h => absurd h List.not_mem_nil⟩⟩⟩⟩⟩⟩⟩⟩⟩⟩⟩⟩⟩⟩⟩⟩⟩⟩⟩⟩⟩⟩⟩⟩⟩⟩⟩⟩⟩⟩⟩⟩⟩⟩⟩⟩⟩⟩⟩⟩
theorem xcv_80 : ∀ x ∈ [80, 81, 82, 83, 84, 85, 86, 87, 88, 89, 90, 91, 92, 93, 94, 95, 96, 97, 98, 99, 100, 101, 102, 103, 104, 105, 106, 107, 108, 109, 110, 111, 112, 113, 114, 115, 116, 117, 118, 119], Cond.code (xmY x) (xmB x) (xmL x) (xmR x) ∈ xw := List.forall_mem_cons.mpr ⟨xw_in xcw_80 rfl, List.forall_mem_cons.mpr ⟨xw_in xcw_81 rfl, List.forall_mem_cons.mpr ⟨xw_in xcw_82 rfl, List.forall_mem_cons.mpr ⟨xw_in xcw_83 rfl, List.forall_mem_cons.mpr ⟨xw_in xcw_84 rfl, List.forall_mem_cons.mpr ⟨xw_in xcw_85 rfl, List.forall_mem_cons.mpr ⟨xw_in xcw_86 rfl, List.forall_mem_cons.mpr ⟨xw_in xcw_87 rfl, List.forall_mem_cons.mpr ⟨xw_in xcw_88 rfl, List.forall_mem_cons.mpr ⟨xw_in xcw_89 rfl, List.forall_mem_cons.mpr ⟨xw_in xcw_90 rfl, List.forall_mem_cons.mpr ⟨xw_in xcw_91 rfl, List.forall_mem_cons.mpr ⟨xw_in xcw_92 rfl, List.forall_mem_cons.mpr ⟨xw_in xcw_93 rfl, List.forall_mem_cons.mpr ⟨xw_in xcw_94 rfl, List.forall_mem_cons.mpr ⟨xw_in xcw_95 rfl, List.forall_mem_cons.mpr ⟨xw_in xcw_96 rfl, List.forall_mem_cons.mpr ⟨xw_in xcw_97 rfl, List.forall_mem_cons.mpr ⟨xw_in xcw_98 rfl, List.forall_mem_cons.mpr ⟨xw_in xcw_99 rfl, List.forall_mem_cons.mpr ⟨xw_in xcw_100 rfl, List.forall_mem_cons.mpr ⟨xw_in xcw_101 rfl, List.forall_mem_cons.mpr ⟨xw_in xcw_102 rfl, List.forall_mem_cons.mpr ⟨xw_in xcw_103 rfl, List.forall_mem_cons.mpr ⟨xw_in xcw_104 rfl, List.forall_mem_cons.mpr ⟨xw_in xcw_105 rfl, List.forall_mem_cons.mpr ⟨xw_in xcw_106 rfl, List.forall_mem_cons.mpr ⟨xw_in xcw_107 rfl, List.forall_mem_cons.mpr ⟨xw_in xcw_108 rfl, List.forall_mem_cons.mpr ⟨xw_in xcw_109 rfl, List.forall_mem_cons.mpr ⟨xw_in xcw_110 rfl, List.forall_mem_cons.mpr ⟨xw_in xcw_111 rfl, List.forall_mem_cons.mpr ⟨xw_in xcw_112 rfl, List.forall_mem_cons.mpr ⟨xw_in xcw_113 rfl, List.forall_mem_cons.mpr ⟨xw_in xcw_114 rfl, List.forall_mem_cons.mpr ⟨xw_in xcw_115 rfl, List.forall_mem_cons.mpr ⟨xw_in xcw_116 rfl, List.forall_mem_cons.mpr ⟨xw_in xcw_117 rfl, List.forall_mem_cons.mpr ⟨xw_in xcw_118 rfl, List.forall_mem_cons.mpr ⟨xw_in xcw_119 rfl, fun _ h => absurd h List.not_mem_nil⟩⟩⟩⟩⟩⟩⟩⟩⟩⟩⟩⟩⟩⟩⟩⟩⟩⟩⟩⟩⟩⟩⟩⟩⟩⟩⟩⟩⟩⟩⟩⟩⟩⟩⟩⟩⟩⟩⟩⟩
theorem xcv_120 : ∀ x ∈ [120, 121, 122, 123, 124, 125, 126, 127, 128, 129, 130, 131, 132, 133, 134, 135, 136], Cond.code (xmY x) (xmB x) (xmL x) (xmR x) ∈ xw := List.forall_mem_cons.mpr ⟨xw_in xcw_120 rfl, List.forall_mem_cons.mpr ⟨xw_in xcw_121 rfl, List.forall_mem_cons.mpr ⟨xw_in xcw_122 rfl, List.forall_mem_cons.mpr ⟨xw_in xcw_123 rfl, List.forall_mem_cons.mpr ⟨xw_in xcw_124 rfl, List.forall_mem_cons.mpr ⟨xw_in xcw_125 rfl, List.forall_mem_cons.mpr ⟨xw_in xcw_126 rfl, List.forall_mem_cons.mpr ⟨xw_in xcw_127 rfl, List.forall_mem_cons.mpr ⟨xw_in xcw_128 rfl, List.forall_mem_cons.mpr ⟨xw_in xcw_129 rfl, List.forall_mem_cons.mpr ⟨xw_in xcw_130 rfl, List.forall_mem_cons.mpr ⟨xw_in xcw_131 rfl, List.forall_mem_cons.mpr ⟨xw_in xcw_132 rfl, List.forall_mem_cons.mpr ⟨xw_in xcw_133 rfl, List.forall_mem_cons.mpr ⟨xw_in xcw_134 rfl, List.forall_mem_cons.mpr ⟨xw_in xcw_135 rfl, List.forall_mem_cons.mpr ⟨xw_in xcw_136 rfl, fun _ h => absurd h List.not_mem_nil⟩⟩⟩⟩⟩⟩⟩⟩⟩⟩⟩⟩⟩⟩⟩⟩⟩
theorem xcv_200 : ∀ x ∈ [200, 201, 202, 203, 204, 205, 206, 207, 208, 209, 210, 211, 212, 213, 214, 215, 216, 217, 218, 219, 220, 221, 222, 223, 224, 225, 226, 227, 228, 229, 230, 231, 232, 233, 234, 235, 236, 237, 238, 239], Cond.code (xmY x) (xmB x) (xmL x) (xmR x) ∈ xw := List.forall_mem_cons.mpr ⟨xw_in xcw_200 rfl, List.forall_mem_cons.mpr ⟨xw_in xcw_201 rfl, List.forall_mem_cons.mpr ⟨xw_in xcw_202 rfl, List.forall_mem_cons.mpr ⟨xw_in xcw_203 rfl, List.forall_mem_cons.mpr ⟨xw_in xcw_204 rfl, List.forall_mem_cons.mpr ⟨xw_in xcw_205 rfl, List.forall_mem_cons.mpr ⟨xw_in xcw_206 rfl, List.forall_mem_cons.mpr ⟨xw_in xcw_207 rfl, List.forall_mem_cons.mpr ⟨xw_in xcw_208 rfl, List.forall_mem_cons.mpr ⟨xw_in xcw_209 rfl, List.forall_mem_cons.mpr ⟨xw_in xcw_210 rfl, List.forall_mem_cons.mpr ⟨xw_in xcw_211 rfl, List.forall_mem_cons.mpr ⟨xw_in xcw_212 rfl, List.forall_mem_cons.mpr ⟨xw_in xcw_213 rfl, List.forall_mem_cons.mpr ⟨xw_in xcw_214 rfl, List.forall_mem_cons.mpr ⟨xw_in xcw_215 rfl, List.forall_mem_cons.mpr ⟨xw_in xcw_216 rfl, List.forall_mem_cons.mpr ⟨xw_in xcw_217 rfl, List.forall_mem_cons.mpr ⟨xw_in xcw_218 rfl, List.forall_mem_cons.mpr ⟨xw_in xcw_219 rfl, List.forall_mem_cons.mpr ⟨xw_in xcw_220 rfl, List.forall_mem_cons.mpr ⟨xw_in xcw_221 rfl, List.forall_mem_cons.mpr ⟨xw_in xcw_222 rfl, List.forall_mem_cons.mpr ⟨xw_in xcw_223 rfl, List.forall_mem_cons.mpr ⟨xw_in xcw_224 rfl, List.forall_mem_cons.mpr ⟨xw_in xcw_225 rfl, List.forall_mem_cons.mpr ⟨xw_in xcw_226 rfl, List.forall_mem_cons.mpr ⟨xw_in xcw_227 rfl, List.forall_mem_cons.mpr ⟨xw_in xcw_228 rfl, List.forall_mem_cons.mpr ⟨xw_in xcw_229 rfl, List.forall_mem_cons.mpr ⟨xw_in xcw_230 rfl, List.forall_mem_cons.mpr ⟨xw_in xcw_231 rfl, List.forall_mem_cons.mpr ⟨xw_in xcw_232 rfl, List.forall_mem_cons.mpr ⟨xw_in xcw_233 rfl, List.forall_mem_cons.mpr ⟨xw_in xcw_234 rfl, List.forall_mem_cons.mpr ⟨xw_in xcw_235 rfl, List.forall_mem_cons.mpr ⟨xw_in xcw_236 rfl, List.forall_mem_cons.mpr ⟨xw_in xcw_237 rfl, List.forall_mem_cons.mpr ⟨xw_in xcw_238 rfl, List.forall_mem_cons.mpr ⟨xw_in xcw_239 rfl, fun _ h => absurd h List.not_mem_nil⟩⟩⟩⟩⟩⟩⟩⟩⟩⟩⟩⟩⟩⟩⟩⟩⟩⟩⟩⟩⟩⟩⟩⟩⟩⟩⟩⟩⟩⟩⟩⟩⟩⟩⟩⟩⟩⟩⟩⟩
theorem xcv_240 : ∀ x ∈ [240, 241, 242, 243, 244, 245, 246, 247, 248, 249, 250, 251, 252, 253, 254, 255, 256, 257, 258, 259, 260, 261, 262, 263, 264, 265, 266, 267, 268, 269, 270, 271], Cond.code (xmY x) (xmB x) (xmL x) (xmR x) ∈ xw := List.forall_mem_cons.mpr ⟨xw_in xcw_240 rfl, List.forall_mem_cons.mpr ⟨xw_in xcw_241 rfl, List.forall_mem_cons.mpr ⟨xw_in xcw_242 rfl, List.forall_mem_cons.mpr ⟨xw_in xcw_243 rfl, List.forall_mem_cons.mpr ⟨xw_in xcw_244 rfl, List.forall_mem_cons.mpr ⟨xw_in xcw_245 rfl, List.forall_mem_cons.mpr ⟨xw_in xcw_246 rfl, List.forall_mem_cons.mpr ⟨xw_in xcw_247 rfl, List.forall_mem_cons.mpr ⟨xw_in xcw_248 rfl, List.forall_mem_cons.mpr ⟨xw_in xcw_249 rfl, List.forall_mem_cons.mpr ⟨xw_in xcw_250 rfl, List.forall_mem_cons.mpr ⟨xw_in xcw_251 rfl, List.forall_mem_cons.mpr ⟨xw_in xcw_252 rfl, List.forall_mem_cons.mpr ⟨xw_in xcw_253 rfl, List.forall_mem_cons.mpr ⟨xw_in xcw_254 rfl, List.forall_mem_cons.mpr ⟨xw_in xcw_255 rfl, List.forall_mem_cons.mpr ⟨xw_in xcw_256 rfl, List.forall_mem_cons.mpr ⟨xw_in xcw_257 rfl, List.forall_mem_cons.mpr ⟨xw_in xcw_258 rfl, List.forall_mem_cons.mpr ⟨xw_in xcw_259 rfl, List.forall_mem_cons.mpr ⟨xw_in xcw_260 rfl, List.forall_mem_cons.mpr ⟨xw_in xcw_261 rfl, List.forall_mem_cons.mpr ⟨xw_in xcw_262 rfl, List.forall_mem_cons.mpr ⟨xw_in xcw_263 rfl, List.forall_mem_cons.mpr ⟨xw_in xcw_264 rfl, List.forall_mem_cons.mpr ⟨xw_in xcw_265 rfl, List.forall_mem_cons.mpr ⟨xw_in xcw_266 rfl, List.forall_mem_cons.mpr ⟨xw_in xcw_267 rfl, List.forall_mem_cons.mpr ⟨xw_in xcw_268 rfl, List.forall_mem_cons.mpr ⟨xw_in xcw_269 rfl, List.forall_mem_cons.mpr ⟨xw_in xcw_270 rfl, List.forall_mem_cons.mpr ⟨xw_in xcw_271 rfl, fun _ h => absurd h List.not_mem_nil⟩⟩⟩⟩⟩⟩⟩⟩⟩⟩⟩⟩⟩⟩⟩⟩⟩⟩⟩⟩⟩⟩⟩⟩⟩⟩⟩⟩⟩⟩⟩⟩
theorem xcv_all {x : Nat} (h : x < 137 ∨ (200 ≤ x ∧ x < 272)) : Cond.code (xmY x) (xmB x) (xmL x) (xmR x) ∈ xw := by
  by_cases h1 : x < 40
  · exact xcv_0 x ((by decide +kernel : ∀ j, j < 40 → j ∈ [0, 1, 2, 3, 4, 5, 6, 7, 8, 9, 10, 11, 12, 13, 14, 15, 16, 17, 18, 19, 20, 21, 22, 23, 24, 25, 26, 27, 28, 29, 30, 31, 32, 33, 34, 35, 36, 37, 38, 39]) x h1)
  by_cases h2 : x < 80
  · have := (by decide +kernel : ∀ j, j < 40 → 40 + j ∈ [40, 41, 42, 43, 44, 45, 46, 47, 48, 49, 50, 51, 52, 53, 54, 55, 56, 57, 58, 59, 60, 61, 62, 63, 64, 65, 66, 67, 68, 69, 70, 71, 72, 73, 74, 75, 76, 77, 78, 79]) (x - 40) (by omega)
    rw [show 40 + (x - 40) = x by omega] at this
    exact xcv_40 x this
  by_cases h3 : x < 120
  · have := (by decide +kernel : ∀ j, j < 40 → 80 + j ∈ [80, 81, 82, 83, 84, 85, 86, 87, 88, 89, 90, 91, 92, 93, 94, 95, 96, 97, 98, 99, 100, 101, 102, 103, 104, 105, 106, 107, 108, 109, 110, 111, 112, 113, 114, 115, 116, 117, 118, 119]) (x - 80) (by omega)
    rw [show 80 + (x - 80) = x by omega] at this
    exact xcv_80 x this
  by_cases h4 : x < 137
  · have := (by decide +kernel : ∀ j, j < 17 → 120 + j ∈ [120, 121, 122, 123, 124, 125, 126, 127, 128, 129, 130, 131, 132, 133, 134, 135, 136]) (x - 120) (by omega)
    rw [show 120 + (x - 120) = x by omega] at this
    exact xcv_120 x this
  by_cases h5 : x < 240
  · have := (by decide +kernel : ∀ j, j < 40 → 200 + j ∈ [200, 201, 202, 203, 204, 205, 206, 207, 208, 209, 210, 211, 212, 213, 214, 215, 216, 217, 218, 219, 220, 221, 222, 223, 224, 225, 226, 227, 228, 229, 230, 231, 232, 233, 234, 235, 236, 237, 238, 239]) (x - 200) (by omega)
    rw [show 200 + (x - 200) = x by omega] at this
    exact xcv_200 x this
  · have := (by decide +kernel : ∀ j, j < 32 → 240 + j ∈ [240, 241, 242, 243, 244, 245, 246, 247, 248, 249, 250, 251, 252, 253, 254, 255, 256, 257, 258, 259, 260, 261, 262, 263, 264, 265, 266, 267, 268, 269, 270, 271]) (x - 240) (by omega)
    rw [show 240 + (x - 240) = x by omega] at this
    exact xcv_240 x this
def xisref : Option FieldType → Bool
  | some (.object _) => true
  | some (.array _) => true
  | _ => false
noncomputable def xck3 (k : Nat) (q : Nat × xa_I) : Bool := match q.2.1 with
  | .invokevirtual _ => Nat.ble 5000 q.2.2.2.1 || (Nat.beq (xmS q.2.2.2.1) 2 && (Nat.blt q.2.2.2.1 137 || (Nat.ble 200 q.2.2.2.1 && Nat.blt q.2.2.2.1 272)))
  | .invokestatic _ => Nat.ble 5000 q.2.2.2.1 || Nat.beq (xmS q.2.2.2.1) 1 && (Nat.blt q.2.2.2.1 137 || (Nat.ble 200 q.2.2.2.1 && Nat.blt q.2.2.2.1 272))
  | .ireturn => decide ((xmZ k = 1 ∧ xmR k = some .boolean) ∨ (xmZ k = 0 ∧ xmR k = some .int))
  | .lreturn => decide (xmR k = some .long)
  | .areturn => xisref (xmR k)
  | .return_ => decide (xmR k = none)
  | _ => true
set_option maxRecDepth 100000 in
theorem xck3_a : ∀ j, j < 137 → (xcode j).all (xck3 j) = true := by decide +kernel
set_option maxRecDepth 100000 in
theorem xck3_b : ∀ j, j < 72 → (xcode (200 + j)).all (xck3 (200 + j)) = true := by decide +kernel
theorem xdec3 {k pc : Nat} {e : xa_I} (h : xcd k pc = some e) : xck3 k (pc, e) = true := by
  have hm := xlk_mem h
  have h1 : (xcode k).all (xck3 k) = true := by
    by_cases hout : (137 ≤ k ∧ k < 200) ∨ 272 ≤ k
    · rw [xcode_out hout]; rfl
    · by_cases h1 : k < 137
      · exact xck3_a k h1
      · have := xck3_b (k - 200) (by omega); rwa [show 200 + (k - 200) = k by omega] at this
  exact List.all_eq_true.mp h1 _ hm
theorem xce_of {x : Nat} (h : x < 137 ∨ (200 ≤ x ∧ x < 272)) : xce x = true := by
  rcases h with h | h
  · exact xce_a x h
  · have := xce_b (x - 200) (by omega); rwa [show 200 + (x - 200) = x by omega] at this

