def wsL_law0_r32 : List Cond := [Cond.static yJ2_getChar_3b067, Cond.code yJ2_getChar_3b067 cJ2_getChar_3b067 2 (some .char), Cond.methodLink RL 144 yX5_textChar, Cond.instanceMethod yX5_textChar, Cond.selects RX5 yX5_textChar yX5_textChar, Cond.code yX5_textChar cX5_textChar 5 (some .char), Cond.methodLink RX5 165 yX5_charOf, Cond.instanceMethod yX5_charOf, Cond.selects RX5 yX5_charOf yX5_charOf, Cond.code yX5_charOf cX5_charOf 6 (some .char), Cond.methodLink RX5 161 yX5_digit, Cond.static yX5_digit, Cond.code yX5_digit cX5_digit 4 (some .char), Cond.methodLink RL 145 yL_handled, Cond.static yL_handled, Cond.codeWith yL_handled cL_handled 4 (some .int) [(0, 9, 12, 13)], Cond.methodLink RL 68 yX4_handled, Cond.instanceMethod yX4_handled, Cond.selects RX4 yX4_handled yX4_handled, Cond.code yX4_handled cX4_handled 2 (some .int), Cond.methodLink RL 147 yX5_handled, Cond.instanceMethod yX5_handled, Cond.selects RX5 yX5_handled yX5_handled, Cond.code yX5_handled cX5_handled 2 (some .int)]
def wsL_law0_r33 : List Cond := [Cond.methodLink RL 148 yL_handledKey, Cond.static yL_handledKey, Cond.codeWith yL_handledKey cL_handledKey 5 (some .int) [(0, 10, 13, 13)], Cond.methodLink RL 71 yX4_handledKey, Cond.instanceMethod yX4_handledKey, Cond.selects RX4 yX4_handledKey yX4_handledKey, Cond.code yX4_handledKey cX4_handledKey 4 (some .int), Cond.methodLink RX4 143 yX2_keyAt, Cond.methodLink RL 150 yX5_handledKey, Cond.instanceMethod yX5_handledKey, Cond.selects RX5 yX5_handledKey yX5_handledKey, Cond.code yX5_handledKey cX5_handledKey 3 (some .int), Cond.methodLink RL 151 yL_doubles, Cond.static yL_doubles, Cond.codeWith yL_doubles cL_doubles 4 (some .int) [(0, 9, 12, 13)], Cond.methodLink RL 74 yX4_doubles, Cond.instanceMethod yX4_doubles, Cond.selects RX4 yX4_doubles yX4_doubles, Cond.code yX4_doubles cX4_doubles 2 (some .int), Cond.methodLink RL 153 yX5_doubles, Cond.instanceMethod yX5_doubles, Cond.selects RX5 yX5_doubles yX5_doubles, Cond.code yX5_doubles cX5_doubles 2 (some .int), Cond.methodLink RL 154 yL_agreed]
def wsL_law0_r34 : List Cond := [Cond.static yL_agreed, Cond.codeWith yL_agreed cL_agreed 4 (some .int) [(0, 9, 12, 13)], Cond.methodLink RL 77 yX4_agreed, Cond.instanceMethod yX4_agreed, Cond.selects RX4 yX4_agreed yX4_agreed, Cond.code yX4_agreed cX4_agreed 7 (some .int), Cond.methodLink RX4 152 Lib.Math.min.name, Cond.methodLink RX4 157 yX2_tellsKey, Cond.instanceMethod yX2_tellsKey, Cond.selects RX2 yX2_tellsKey yX2_tellsKey, Cond.code yX2_tellsKey cX2_tellsKey 3 (some .boolean), Cond.constant RX2 44 (4194304), Cond.methodLink RX2 40 yX2_hasBusiness, Cond.methodLink RX2 45 yX0_isMarked, Cond.methodLink RX2 49 yX0_toldBy, Cond.methodLink RX2 52 yX2_hasKeyAhead, Cond.instanceMethod yX2_hasKeyAhead, Cond.selects RX2 yX2_hasKeyAhead yX2_hasKeyAhead, Cond.code yX2_hasKeyAhead cX2_hasKeyAhead 4 (some .boolean), Cond.methodLink RL 156 yX5_agreed, Cond.instanceMethod yX5_agreed, Cond.selects RX5 yX5_agreed yX5_agreed, Cond.code yX5_agreed cX5_agreed 7 (some .int), Cond.methodLink RX5 168 yX5_cameAhead]
def wsL_law0_r35 : List Cond := [Cond.instanceMethod yX5_cameAhead, Cond.selects RX5 yX5_cameAhead yX5_cameAhead, Cond.code yX5_cameAhead cX5_cameAhead 4 (some .boolean)]
def wsL_law0 : List Cond := (wsL_law0_r1 ++ (wsL_law0_r2 ++ (wsL_law0_r3 ++ (wsL_law0_r4 ++ (wsL_law0_r5 ++ (wsL_law0_r6 ++ (wsL_law0_r7 ++ (wsL_law0_r8 ++ (wsL_law0_r9 ++ (wsL_law0_r10 ++ (wsL_law0_r11 ++ (wsL_law0_r12 ++ (wsL_law0_r13 ++ (wsL_law0_r14 ++ (wsL_law0_r15 ++ (wsL_law0_r16 ++ (wsL_law0_r17 ++ (wsL_law0_r18 ++ (wsL_law0_r19 ++ (wsL_law0_r20 ++ (wsL_law0_r21 ++ (wsL_law0_r22 ++ (wsL_law0_r23 ++ (wsL_law0_r24 ++ (wsL_law0_r25 ++ (wsL_law0_r26 ++ (wsL_law0_r27 ++ (wsL_law0_r28 ++ (wsL_law0_r29 ++ (wsL_law0_r30 ++ (wsL_law0_r31 ++ (wsL_law0_r32 ++ (wsL_law0_r33 ++ (wsL_law0_r34 ++ wsL_law0_r35)))))))))))))))))))))))))))))))))) ++ wsX40 ++ wsX50 ++ wsX10 ++ wsX20 ++ wsX30 ++ wsJ40 ++ ([] : List Cond)
def wsL_law : List Cond := wsL_law0 ++ (vx_at0 RX4 46 "java/lang/IllegalStateException" ["java/lang/RuntimeException", "java/lang/Exception"]).filter goodWord ++ (vx_at0 RX4 78 "java/lang/IndexOutOfBoundsException" ["java/lang/RuntimeException", "java/lang/Exception"]).filter goodWord ++ (vx_at0 RX4 71 "java/lang/IllegalArgumentException" ["java/lang/RuntimeException", "java/lang/Exception"]).filter goodWord
theorem in_pos {big ws : List Cond} (ps : List Nat) (hp : ws = ps.filterMap (fun i => big[i]?)) : ∀ w ∈ ws, w ∈ big := by
  intro w hw
  rw [hp] at hw
  obtain ⟨i, -, hi⟩ := List.mem_filterMap.mp hw
  exact List.mem_of_getElem? hi
set_option maxRecDepth 40000 in
theorem wl_r1 : ∀ w ∈ wsL_law0_r1, w ∈ lw_tbl := in_pos [71, 72, 48, 808, 809, 52, 1073, 73, 74, 75, 76, 77, 78, 79, 80, 49, 160, 161, 162, 82, 83, 84, 85, 86] (by decide +kernel)
set_option maxRecDepth 40000 in
theorem wl_r2 : ∀ w ∈ wsL_law0_r2, w ∈ lw_tbl := in_pos [50, 129, 115, 116, 51, 131, 133, 88, 89, 90, 114, 91, 94, 96, 118, 119, 120, 121, 810, 811, 812, 813, 885, 818] (by decide +kernel)
set_option maxRecDepth 40000 in
theorem wl_r3 : ∀ w ∈ wsL_law0_r3, w ∈ lw_tbl := in_pos [821, 822, 823, 824, 825, 826, 827, 828, 829, 886, 830, 831, 832, 833, 834, 835, 836, 837, 838, 839, 814, 816, 20, 817] (by decide +kernel)
set_option maxRecDepth 40000 in
theorem wl_r4 : ∀ w ∈ wsL_law0_r4, w ∈ lw_tbl := in_pos [213, 214, 47, 215, 216, 217, 218, 219, 220, 221, 289, 57, 308, 222, 224, 5, 225, 226, 56, 178, 180, 1, 181, 190] (by decide +kernel)
set_option maxRecDepth 40000 in
theorem wl_r5 : ∀ w ∈ wsL_law0_r5, w ∈ lw_tbl := in_pos [191, 192, 193, 92, 304, 306, 7, 307, 186, 188, 2, 189, 194, 195, 58, 196, 197, 198, 199, 200, 201, 203, 3, 204] (by decide +kernel)
set_option maxRecDepth 40000 in
theorem wl_r6 : ∀ w ∈ wsL_law0_r6, w ∈ lw_tbl := in_pos [205, 207, 4, 208, 209, 210, 211, 212, 122, 891, 892, 893, 894, 895, 896, 897, 898, 899, 900, 901, 903, 21, 904, 905] (by decide +kernel)
set_option maxRecDepth 40000 in
theorem wl_r7 : ∀ w ∈ wsL_law0_r7, w ∈ lw_tbl := in_pos [907, 22, 908, 819, 909, 911, 23, 912, 913, 915, 24, 916, 820, 887, 888, 889, 890, 309, 310, 311, 312, 313, 314, 315] (by decide +kernel)
set_option maxRecDepth 40000 in
theorem wl_r8 : ∀ w ∈ wsL_law0_r8, w ∈ lw_tbl := in_pos [316, 318, 8, 319, 182, 183, 184, 185, 135, 917, 918, 919, 920, 921, 923, 25, 924, 320, 321, 322, 323, 324, 325, 326] (by decide +kernel)
set_option maxRecDepth 40000 in
theorem wl_r9 : ∀ w ∈ wsL_law0_r9, w ∈ lw_tbl := in_pos [925, 926, 927, 928, 327, 328, 329, 330, 331, 332, 333, 334, 335, 336, 337, 97, 99, 929, 930, 931, 932, 338, 339, 340] (by decide +kernel)
set_option maxRecDepth 40000 in
theorem wl_r10 : ∀ w ∈ wsL_law0_r10, w ∈ lw_tbl := in_pos [341, 342, 343, 344, 345, 346, 59, 933, 934, 935, 936, 937, 939, 26, 940, 361, 362, 363, 364, 365, 366, 367, 383, 368] (by decide +kernel)
set_option maxRecDepth 40000 in
theorem wl_r11 : ∀ w ∈ wsL_law0_r11, w ∈ lw_tbl := in_pos [369, 370, 371, 372, 373, 374, 375, 376, 377, 378, 379, 380, 381, 382, 941, 942, 943, 944, 384, 385, 386, 387, 388, 389] (by decide +kernel)
set_option maxRecDepth 40000 in
theorem wl_r12 : ∀ w ∈ wsL_law0_r12, w ∈ lw_tbl := in_pos [390, 391, 393, 9, 394, 395, 396, 397, 398, 399, 400, 401, 402, 403, 404, 405, 406, 138, 141, 407, 409, 10, 410, 411] (by decide +kernel)
set_option maxRecDepth 40000 in
theorem wl_r13 : ∀ w ∈ wsL_law0_r13, w ∈ lw_tbl := in_pos [412, 413, 414, 415, 417, 11, 418, 419, 420, 421, 422, 423, 425, 12, 426, 427, 429, 13, 430, 431, 432, 60, 433, 434] (by decide +kernel)
set_option maxRecDepth 40000 in
theorem wl_r14 : ∀ w ∈ wsL_law0_r14, w ∈ lw_tbl := in_pos [436, 14, 437, 438, 440, 15, 441, 442, 444, 16, 445, 446, 447, 448, 449, 450, 451, 452, 453, 454, 455, 456, 457, 458] (by decide +kernel)
set_option maxRecDepth 40000 in
theorem wl_r15 : ∀ w ∈ wsL_law0_r15, w ∈ lw_tbl := in_pos [460, 17, 461, 953, 954, 955, 956, 949, 951, 27, 952, 957, 959, 28, 960, 961, 963, 29, 964, 965, 966, 967, 968, 970] (by decide +kernel)
set_option maxRecDepth 40000 in
theorem wl_r16 : ∀ w ∈ wsL_law0_r16, w ∈ lw_tbl := in_pos [30, 971, 972, 974, 31, 975, 976, 978, 32, 979, 462, 463, 464, 465, 466, 467, 468, 945, 946, 947, 948, 170, 171, 172] (by decide +kernel)
set_option maxRecDepth 40000 in
theorem wl_r17 : ∀ w ∈ wsL_law0_r17, w ∈ lw_tbl := in_pos [173, 174, 176, 0, 177, 980, 981, 982, 983, 984, 986, 33, 987, 469, 470, 471, 472, 473, 474, 475, 988, 989, 990, 991] (by decide +kernel)
set_option maxRecDepth 40000 in
theorem wl_r18 : ∀ w ∈ wsL_law0_r18, w ∈ lw_tbl := in_pos [992, 994, 34, 995, 476, 477, 478, 479, 480, 481, 482, 996, 997, 998, 999, 483, 484, 485, 486, 487, 488, 489, 1000, 1001] (by decide +kernel)
set_option maxRecDepth 40000 in
theorem wl_r19 : ∀ w ∈ wsL_law0_r19, w ∈ lw_tbl := in_pos [1002, 1003, 490, 491, 492, 493, 494, 495, 496, 1004, 1005, 1006, 1007, 497, 498, 499, 500, 501, 502, 503, 1008, 1009, 1010, 1011] (by decide +kernel)
set_option maxRecDepth 40000 in
theorem wl_r20 : ∀ w ∈ wsL_law0_r20, w ∈ lw_tbl := in_pos [504, 505, 506, 507, 508, 509, 510, 511, 513, 18, 514, 515, 1012, 1013, 1014, 1015, 1016, 1018, 35, 1019, 516, 517, 518, 519] (by decide +kernel)
set_option maxRecDepth 40000 in
theorem wl_r21 : ∀ w ∈ wsL_law0_r21, w ∈ lw_tbl := in_pos [520, 521, 522, 523, 524, 525, 527, 528, 62, 735, 738, 526, 529, 530, 531, 532, 533, 61, 534, 535, 536, 557, 545, 546] (by decide +kernel)
set_option maxRecDepth 40000 in
theorem wl_r22 : ∀ w ∈ wsL_law0_r22, w ∈ lw_tbl := in_pos [538, 539, 64, 540, 541, 542, 543, 544, 558, 559, 560, 561, 562, 563, 1075, 556, 564, 565, 547, 566, 567, 65, 568, 569] (by decide +kernel)
set_option maxRecDepth 40000 in
theorem wl_r23 : ∀ w ∈ wsL_law0_r23, w ∈ lw_tbl := in_pos [1076, 41, 571, 572, 573, 1077, 42, 575, 576, 585, 577, 578, 66, 579, 580, 581, 582, 583, 584, 586, 587, 67, 588, 589] (by decide +kernel)
set_option maxRecDepth 40000 in
theorem wl_r24 : ∀ w ∈ wsL_law0_r24, w ∈ lw_tbl := in_pos [590, 591, 592, 593, 595, 596, 597, 598, 599, 601, 600, 68, 602, 604, 605, 603, 606, 607, 608, 609, 610, 612, 614, 615] (by decide +kernel)
set_option maxRecDepth 40000 in
theorem wl_r25 : ∀ w ∈ wsL_law0_r25, w ∈ lw_tbl := in_pos [616, 638, 617, 618, 619, 620, 621, 622, 623, 624, 63, 625, 626, 628, 629, 69, 630, 631, 632, 633, 634, 644, 635, 636] (by decide +kernel)
set_option maxRecDepth 40000 in
theorem wl_r26 : ∀ w ∈ wsL_law0_r26, w ∈ lw_tbl := in_pos [637, 640, 642, 645, 646, 647, 648, 649, 1078, 650, 651, 652, 653, 70, 654, 655, 1079, 43, 657, 658, 659, 660, 661, 662] (by decide +kernel)
set_option maxRecDepth 40000 in
theorem wl_r27 : ∀ w ∈ wsL_law0_r27, w ∈ lw_tbl := in_pos [663, 664, 665, 666, 667, 668, 669, 670, 671, 672, 673, 674, 675, 676, 677, 678, 679, 680, 681, 682, 683, 684, 685, 686] (by decide +kernel)
set_option maxRecDepth 40000 in
theorem wl_r28 : ∀ w ∈ wsL_law0_r28, w ∈ lw_tbl := in_pos [687, 688, 696, 697, 698, 699, 700, 1080, 701, 702, 703, 1081, 44, 705, 706, 707, 708, 709, 710, 711, 712, 713, 1086, 714] (by decide +kernel)
set_option maxRecDepth 40000 in
theorem wl_r29 : ∀ w ∈ wsL_law0_r29, w ∈ lw_tbl := in_pos [715, 716, 717, 718, 1087, 719, 1082, 45, 721, 722, 723, 1083, 46, 725, 726, 727, 728, 729, 730, 731, 732, 733, 734, 736] (by decide +kernel)
set_option maxRecDepth 40000 in
theorem wl_r30 : ∀ w ∈ wsL_law0_r30, w ∈ lw_tbl := in_pos [740, 741, 742, 743, 744, 1084, 745, 746, 1020, 1021, 1022, 1023, 1024, 1026, 36, 1027, 1028, 1030, 37, 1031, 1032, 1033, 1034, 1035] (by decide +kernel)
set_option maxRecDepth 40000 in
theorem wl_r31 : ∀ w ∈ wsL_law0_r31, w ∈ lw_tbl := in_pos [1037, 38, 1038, 1039, 1040, 1041, 747, 748, 749, 750, 751, 752, 753, 754, 755, 756, 757, 758, 1085, 759, 760, 761, 762, 763] (by decide +kernel)
set_option maxRecDepth 40000 in
theorem wl_r32 : ∀ w ∈ wsL_law0_r32, w ∈ lw_tbl := in_pos [764, 765, 1042, 1043, 1044, 1045, 1046, 1048, 39, 1049, 1050, 1051, 1052, 766, 767, 768, 769, 770, 771, 772, 1053, 1054, 1055, 1056] (by decide +kernel)
set_option maxRecDepth 40000 in
theorem wl_r33 : ∀ w ∈ wsL_law0_r33, w ∈ lw_tbl := in_pos [773, 774, 775, 776, 777, 778, 779, 780, 1057, 1058, 1059, 1060, 781, 782, 783, 784, 785, 786, 787, 1061, 1062, 1063, 1064, 788] (by decide +kernel)
set_option maxRecDepth 40000 in
theorem wl_r34 : ∀ w ∈ wsL_law0_r34, w ∈ lw_tbl := in_pos [789, 790, 791, 792, 793, 794, 795, 796, 797, 798, 799, 801, 800, 802, 803, 804, 806, 19, 807, 1065, 1066, 1067, 1068, 1069] (by decide +kernel)
set_option maxRecDepth 40000 in
theorem wl_r35 : ∀ w ∈ wsL_law0_r35, w ∈ lw_tbl := in_pos [1071, 40, 1072] (by decide +kernel)
set_option maxRecDepth 40000 in
theorem wl_X4 : ∀ w ∈ wsX40, w ∈ lw_tbl := in_pos [163, 165, 167] (by decide +kernel)
set_option maxRecDepth 40000 in
theorem wl_X5 : ∀ w ∈ wsX50, w ∈ lw_tbl := in_pos [840, 842, 844, 846, 848, 850, 852, 854, 856, 858, 860, 862, 864, 866, 868, 870, 872, 874, 876, 878, 880, 882] (by decide +kernel)
set_option maxRecDepth 40000 in
theorem wl_X1 : ∀ w ∈ wsX10, w ∈ lw_tbl := in_pos [143, 145, 147, 149, 151, 153, 155, 157] (by decide +kernel)
set_option maxRecDepth 40000 in
theorem wl_X2 : ∀ w ∈ wsX20, w ∈ lw_tbl := in_pos [101, 103, 105, 107, 109, 111] (by decide +kernel)
set_option maxRecDepth 40000 in
theorem wl_X3 : ∀ w ∈ wsX30, w ∈ lw_tbl := in_pos [124, 126] (by decide +kernel)
set_option maxRecDepth 40000 in
theorem wl_J4 : ∀ w ∈ wsJ40, w ∈ lw_tbl := in_pos [548, 550, 552, 554] (by decide +kernel)
set_option maxRecDepth 40000 in
theorem wsL_law_in0 : ∀ w ∈ wsL_law0, w ∈ lw_tbl := fun w => (fun h => (List.mem_append.mp h).elim (fun h => (List.mem_append.mp h).elim (fun h => (List.mem_append.mp h).elim (fun h => (List.mem_append.mp h).elim (fun h => (List.mem_append.mp h).elim (fun h => (List.mem_append.mp h).elim (fun h => (List.mem_append.mp h).elim (fun h => (List.mem_append.mp h).elim (wl_r1 w) (fun h => (List.mem_append.mp h).elim (wl_r2 w) (fun h => (List.mem_append.mp h).elim (wl_r3 w) (fun h => (List.mem_append.mp h).elim (wl_r4 w) (fun h => (List.mem_append.mp h).elim (wl_r5 w) (fun h => (List.mem_append.mp h).elim (wl_r6 w) (fun h => (List.mem_append.mp h).elim (wl_r7 w) (fun h => (List.mem_append.mp h).elim (wl_r8 w) (fun h => (List.mem_append.mp h).elim (wl_r9 w) (fun h => (List.mem_append.mp h).elim (wl_r10 w) (fun h => (List.mem_append.mp h).elim (wl_r11 w) (fun h => (List.mem_append.mp h).elim (wl_r12 w) (fun h => (List.mem_append.mp h).elim (wl_r13 w) (fun h => (List.mem_append.mp h).elim (wl_r14 w) (fun h => (List.mem_append.mp h).elim (wl_r15 w) (fun h => (List.mem_append.mp h).elim (wl_r16 w) (fun h => (List.mem_append.mp h).elim (wl_r17 w) (fun h => (List.mem_append.mp h).elim (wl_r18 w) (fun h => (List.mem_append.mp h).elim (wl_r19 w) (fun h => (List.mem_append.mp h).elim (wl_r20 w) (fun h => (List.mem_append.mp h).elim (wl_r21 w) (fun h => (List.mem_append.mp h).elim (wl_r22 w) (fun h => (List.mem_append.mp h).elim (wl_r23 w) (fun h => (List.mem_append.mp h).elim (wl_r24 w) (fun h => (List.mem_append.mp h).elim (wl_r25 w) (fun h => (List.mem_append.mp h).elim (wl_r26 w) (fun h => (List.mem_append.mp h).elim (wl_r27 w) (fun h => (List.mem_append.mp h).elim (wl_r28 w) (fun h => (List.mem_append.mp h).elim (wl_r29 w) (fun h => (List.mem_append.mp h).elim (wl_r30 w) (fun h => (List.mem_append.mp h).elim (wl_r31 w) (fun h => (List.mem_append.mp h).elim (wl_r32 w) (fun h => (List.mem_append.mp h).elim (wl_r33 w) (fun h => (List.mem_append.mp h).elim (wl_r34 w) (wl_r35 w))))))))))))))))))))))))))))))))))) (wl_X4 w)) (wl_X5 w)) (wl_X1 w)) (wl_X2 w)) (wl_X3 w)) (wl_J4 w)) (fun h => absurd h List.not_mem_nil))
theorem wsL_law_x0 : ∀ w ∈ (vx_at0 RX4 46 "java/lang/IllegalStateException" ["java/lang/RuntimeException", "java/lang/Exception"]).filter goodWord, w ∈ lw_tbl := by decide +kernel
theorem wsL_law_x1 : ∀ w ∈ (vx_at0 RX4 78 "java/lang/IndexOutOfBoundsException" ["java/lang/RuntimeException", "java/lang/Exception"]).filter goodWord, w ∈ lw_tbl := by decide +kernel
theorem wsL_law_x2 : ∀ w ∈ (vx_at0 RX4 71 "java/lang/IllegalArgumentException" ["java/lang/RuntimeException", "java/lang/Exception"]).filter goodWord, w ∈ lw_tbl := by decide +kernel
theorem wsL_law_in : ∀ w ∈ wsL_law, w ∈ lw_tbl := fun w h => (List.mem_append.mp h).elim (fun h => (List.mem_append.mp h).elim (fun h => (List.mem_append.mp h).elim (fun h => wsL_law_in0 w h) (fun h => wsL_law_x0 w h)) (fun h => wsL_law_x1 w h)) (fun h => wsL_law_x2 w h)
theorem inX0 : ∀ w ∈ wsX00, w ∈ lw_tbl := by decide +kernel
theorem inlX1 : ∀ w ∈ wsX10, w ∈ wsL_law := fun _ h => List.mem_append_left _ (List.mem_append_left _ (List.mem_append_left _ (List.mem_append_left _ (List.mem_append_left _ (List.mem_append_left _ (List.mem_append_left _ (List.mem_append_right _ h)))))))
theorem inX1 : ∀ w ∈ wsX10, w ∈ lw_tbl := fun w h => wsL_law_in w (inlX1 w h)
theorem inlX2 : ∀ w ∈ wsX20, w ∈ wsL_law := fun _ h => List.mem_append_left _ (List.mem_append_left _ (List.mem_append_left _ (List.mem_append_left _ (List.mem_append_left _ (List.mem_append_left _ (List.mem_append_right _ h))))))
theorem inX2 : ∀ w ∈ wsX20, w ∈ lw_tbl := fun w h => wsL_law_in w (inlX2 w h)
theorem inlX3 : ∀ w ∈ wsX30, w ∈ wsL_law := fun _ h => List.mem_append_left _ (List.mem_append_left _ (List.mem_append_left _ (List.mem_append_left _ (List.mem_append_left _ (List.mem_append_right _ h)))))
theorem inX3 : ∀ w ∈ wsX30, w ∈ lw_tbl := fun w h => wsL_law_in w (inlX3 w h)
theorem inlX4 : ∀ w ∈ wsX40, w ∈ wsL_law := fun _ h => List.mem_append_left _ (List.mem_append_left _ (List.mem_append_left _ (List.mem_append_left _ (List.mem_append_left _ (List.mem_append_left _ (List.mem_append_left _ (List.mem_append_left _ (List.mem_append_left _ (List.mem_append_right _ h)))))))))
theorem inX4 : ∀ w ∈ wsX40, w ∈ lw_tbl := fun w h => wsL_law_in w (inlX4 w h)
theorem inlX5 : ∀ w ∈ wsX50, w ∈ wsL_law := fun _ h => List.mem_append_left _ (List.mem_append_left _ (List.mem_append_left _ (List.mem_append_left _ (List.mem_append_left _ (List.mem_append_left _ (List.mem_append_left _ (List.mem_append_left _ (List.mem_append_right _ h))))))))
theorem inX5 : ∀ w ∈ wsX50, w ∈ lw_tbl := fun w h => wsL_law_in w (inlX5 w h)
theorem inJ5 : ∀ w ∈ wsJ50, w ∈ lw_tbl := by decide +kernel
theorem inJx8e188 : ∀ w ∈ wsJx8e1880, w ∈ lw_tbl := by decide +kernel
theorem inJ6 : ∀ w ∈ wsJ60, w ∈ lw_tbl := by decide +kernel
theorem inJ9 : ∀ w ∈ wsJ90, w ∈ lw_tbl := by decide +kernel
theorem inJ0 : ∀ w ∈ wsJ00, w ∈ lw_tbl := by decide +kernel
theorem inlJ4 : ∀ w ∈ wsJ40, w ∈ wsL_law := fun _ h => List.mem_append_left _ (List.mem_append_left _ (List.mem_append_left _ (List.mem_append_left _ (List.mem_append_right _ h))))
theorem inJ4 : ∀ w ∈ wsJ40, w ∈ lw_tbl := fun w h => wsL_law_in w (inlJ4 w h)
theorem inJ1 : ∀ w ∈ wsJ10, w ∈ lw_tbl := by decide +kernel
theorem inJ2 : ∀ w ∈ wsJ20, w ∈ lw_tbl := by decide +kernel
theorem inJ10 : ∀ w ∈ wsJ100, w ∈ lw_tbl := by decide +kernel
theorem inJ7 : ∀ w ∈ wsJ70, w ∈ lw_tbl := by decide +kernel
theorem inJ8 : ∀ w ∈ wsJ80, w ∈ lw_tbl := by decide +kernel
theorem inJ3 : ∀ w ∈ wsJ30, w ∈ lw_tbl := by decide +kernel
theorem dX0_of_0 : decode cX0_of 0 = .ok (.iload_n 0, 1) := by decide +kernel
theorem dX0_of_1 : decode cX0_of 1 = .ok (.iload_n 1, 1) := by decide +kernel
theorem dX0_of_2 : decode cX0_of 2 = .ok (.bipush 8, 2) := by decide +kernel
theorem dX0_of_4 : decode cX0_of 4 = .ok (.ishl, 1) := by decide +kernel
theorem dX0_of_5 : decode cX0_of 5 = .ok (.ior, 1) := by decide +kernel
theorem dX0_of_6 : decode cX0_of 6 = .ok (.iload_n 2, 1) := by decide +kernel
theorem dX0_of_7 : decode cX0_of 7 = .ok (.bipush 11, 2) := by decide +kernel
theorem dX0_of_9 : decode cX0_of 9 = .ok (.ishl, 1) := by decide +kernel
theorem dX0_of_10 : decode cX0_of 10 = .ok (.ior, 1) := by decide +kernel
theorem dX0_of_11 : decode cX0_of 11 = .ok (.iload_n 3, 1) := by decide +kernel
theorem dX0_of_12 : decode cX0_of 12 = .ok (.ior, 1) := by decide +kernel
theorem dX0_of_13 : decode cX0_of 13 = .ok (.ireturn, 1) := by decide +kernel
theorem dX0_numberOf_0 : decode cX0_numberOf 0 = .ok (.iload_n 0, 1) := by decide +kernel
theorem dX0_numberOf_1 : decode cX0_numberOf 1 = .ok (.sipush 255, 3) := by decide +kernel
theorem dX0_numberOf_4 : decode cX0_numberOf 4 = .ok (.iand, 1) := by decide +kernel
theorem dX0_numberOf_5 : decode cX0_numberOf 5 = .ok (.ireturn, 1) := by decide +kernel
theorem dX0_kindOf_0 : decode cX0_kindOf 0 = .ok (.iload_n 0, 1) := by decide +kernel
theorem dX0_kindOf_1 : decode cX0_kindOf 1 = .ok (.bipush 8, 2) := by decide +kernel
theorem dX0_kindOf_3 : decode cX0_kindOf 3 = .ok (.ishr, 1) := by decide +kernel
theorem dX0_kindOf_4 : decode cX0_kindOf 4 = .ok (.bipush 7, 2) := by decide +kernel
theorem dX0_kindOf_6 : decode cX0_kindOf 6 = .ok (.iand, 1) := by decide +kernel
theorem dX0_kindOf_7 : decode cX0_kindOf 7 = .ok (.ireturn, 1) := by decide +kernel
theorem dX0_toldBy_0 : decode cX0_toldBy 0 = .ok (.iload_n 0, 1) := by decide +kernel
theorem dX0_toldBy_1 : decode cX0_toldBy 1 = .ok (.bipush 11, 2) := by decide +kernel
theorem dX0_toldBy_3 : decode cX0_toldBy 3 = .ok (.ishr, 1) := by decide +kernel
theorem dX0_toldBy_4 : decode cX0_toldBy 4 = .ok (.sipush 1023, 3) := by decide +kernel
theorem dX0_toldBy_7 : decode cX0_toldBy 7 = .ok (.iand, 1) := by decide +kernel
theorem dX0_toldBy_8 : decode cX0_toldBy 8 = .ok (.ireturn, 1) := by decide +kernel
theorem dX0_isMarked_0 : decode cX0_isMarked 0 = .ok (.iload_n 0, 1) := by decide +kernel
theorem dX0_isMarked_1 : decode cX0_isMarked 1 = .ok (.iload_n 1, 1) := by decide +kernel
theorem dX0_isMarked_2 : decode cX0_isMarked 2 = .ok (.iand, 1) := by decide +kernel
theorem dX0_isMarked_3 : decode cX0_isMarked 3 = .ok (.ifCond .eq 7, 3) := by decide +kernel
theorem dX0_isMarked_6 : decode cX0_isMarked 6 = .ok (.iconst 1, 1) := by decide +kernel
theorem dX0_isMarked_7 : decode cX0_isMarked 7 = .ok (.goto 4, 3) := by decide +kernel
theorem dX0_isMarked_10 : decode cX0_isMarked 10 = .ok (.iconst 0, 1) := by decide +kernel
theorem dX0_isMarked_11 : decode cX0_isMarked 11 = .ok (.ireturn, 1) := by decide +kernel
set_option maxRecDepth 20000 in
theorem ggX0_textOf_X0_kindOf : GoodIn wsX0_textOf wsX0_kindOf := goodIn_r _ [9] (by decide +kernel) (by decide +kernel)
set_option maxRecDepth 20000 in
theorem gX0_textOf_X0_kindOf : GoodIn wsX0_textOf (va_wsS RX0 11 yX0_kindOf wsX0_kindOf) := goodIn_app (goodIn_of _ (by decide +kernel)) ggX0_textOf_X0_kindOf
set_option maxRecDepth 20000 in
theorem ggX0_textOf_J4_init_da8c8 : GoodIn wsX0_textOf wsJ4_init_da8c8 := goodIn_r _ [12, 13, 14, 15, 16, 17, 18, 19, 20, 21, 22, 23, 24, 25, 26, 27, 28, 29, 30, 31, 225, 226, 227, 228] (by decide +kernel) (by decide +kernel)
set_option maxRecDepth 20000 in
theorem gX0_textOf_J4_init_da8c8 : GoodIn wsX0_textOf (wsJ4_init_da8c8) := ggX0_textOf_J4_init_da8c8
set_option maxRecDepth 20000 in
theorem ggX0_textOf_X0_numberOf : GoodIn wsX0_textOf wsX0_numberOf := goodIn_r _ [34] (by decide +kernel) (by decide +kernel)
set_option maxRecDepth 20000 in
theorem gX0_textOf_X0_numberOf : GoodIn wsX0_textOf (va_wsS RX0 18 yX0_numberOf wsX0_numberOf) := goodIn_app (goodIn_of _ (by decide +kernel)) ggX0_textOf_X0_numberOf
set_option maxRecDepth 20000 in
theorem ggX0_textOf_J4_append_bf812 : GoodIn wsX0_textOf wsJ4_append_bf812 := goodIn_r _ [38, 39, 40, 41, 42, 15, 43, 44, 22, 45, 46, 47, 48, 49, 50, 51, 52, 53, 23, 54, 55, 56, 57, 58, 59, 60, 61, 62, 63, 64, 65, 66, 67, 68, 69, 70, 71, 72, 73, 74, 75, 76, 77, 78, 79, 80, 81, 21, 82, 83, 84, 85, 86, 87, 88, 89, 90, 91, 92, 93, 20, 94, 95, 96, 97, 98, 99, 100, 26, 101, 102, 103, 104, 105, 106, 107, 108, 109, 110, 111, 112, 113, 114, 115, 116, 117, 118, 119, 120, 121, 122, 123, 124, 125, 126, 127, 225, 226, 227, 228] (by decide +kernel) (by decide +kernel)
set_option maxRecDepth 20000 in
theorem gX0_textOf_J4_append_bf812 : GoodIn wsX0_textOf (wsV RX0 21 RJ4 yJ4_append_bf812 wsJ4_append_bf812) := goodIn_app (goodIn_of _ (by decide +kernel)) ggX0_textOf_J4_append_bf812
set_option maxRecDepth 20000 in
theorem ggX0_textOf_J4_append_cf468 : GoodIn wsX0_textOf wsJ4_append_cf468 := goodIn_r _ [131, 132, 133, 41, 134, 15, 135, 44, 22, 49, 50, 51, 52, 53, 23, 54, 55, 56, 57, 58, 59, 60, 61, 62, 63, 64, 65, 66, 67, 68, 69, 70, 71, 72, 73, 74, 75, 76, 77, 78, 79, 80, 81, 21, 82, 83, 84, 85, 86, 87, 88, 89, 90, 91, 92, 93, 20, 136, 137, 138, 139, 140, 141, 142, 143, 144, 24, 25, 26, 27, 28, 29, 30, 31, 145, 146, 147, 148, 149, 150, 151, 152, 153, 106, 107, 108, 154, 155, 111, 156, 113, 157, 158, 116, 159, 123, 124, 125, 102, 126, 127, 160, 161, 162, 163, 164, 165, 166, 167, 168, 169, 170, 171, 225, 226, 227, 228] (by decide +kernel) (by decide +kernel)
set_option maxRecDepth 20000 in
theorem gX0_textOf_J4_append_cf468 : GoodIn wsX0_textOf (wsV RX0 25 RJ4 yJ4_append_cf468 wsJ4_append_cf468) := goodIn_app (goodIn_of _ (by decide +kernel)) ggX0_textOf_J4_append_cf468
set_option maxRecDepth 20000 in
theorem ggX0_textOf_X0_nameOf : GoodIn wsX0_textOf wsX0_nameOf := goodIn_r _ [174] (by decide +kernel) (by decide +kernel)
set_option maxRecDepth 20000 in
theorem gX0_textOf_X0_nameOf : GoodIn wsX0_textOf (va_wsS RX0 28 yX0_nameOf wsX0_nameOf) := goodIn_app (goodIn_of _ (by decide +kernel)) ggX0_textOf_X0_nameOf
set_option maxRecDepth 20000 in
theorem ggX0_textOf_J4_append_15ec4 : GoodIn wsX0_textOf wsJ4_append_15ec4 := goodIn_r _ [178, 179, 180, 41, 181, 15, 182, 44, 183, 184, 185, 186, 187, 22, 49, 50, 51, 52, 53, 23, 54, 55, 56, 57, 58, 59, 60, 61, 62, 63, 64, 65, 66, 67, 68, 69, 70, 71, 72, 73, 74, 75, 76, 77, 78, 79, 80, 81, 21, 82, 83, 84, 85, 86, 87, 88, 89, 90, 91, 92, 93, 20, 188, 189, 26, 190, 102, 103, 104, 105, 106, 107, 108, 109, 110, 111, 112, 113, 114, 115, 116, 117, 123, 124, 125, 126, 127, 191, 192, 193, 194, 195, 196, 197, 198, 199, 200, 201, 202, 203, 204, 205, 206, 207, 208, 209, 210, 211, 212, 140, 141, 142, 143, 144, 24, 25, 27, 28, 29, 30, 31, 145, 146, 138, 147, 148, 149, 150, 151, 152, 153, 154, 155, 156, 157, 158, 159, 213, 214, 215, 216, 217, 218, 225, 226, 227, 228] (by decide +kernel) (by decide +kernel)
set_option maxRecDepth 20000 in
theorem gX0_textOf_J4_append_15ec4 : GoodIn wsX0_textOf (wsV RX0 32 RJ4 yJ4_append_15ec4 wsJ4_append_15ec4) := goodIn_app (goodIn_of _ (by decide +kernel)) ggX0_textOf_J4_append_15ec4
set_option maxRecDepth 20000 in
theorem ggX0_textOf_X0_toldBy : GoodIn wsX0_textOf wsX0_toldBy := goodIn_r _ [221] (by decide +kernel) (by decide +kernel)
set_option maxRecDepth 20000 in
theorem gX0_textOf_X0_toldBy : GoodIn wsX0_textOf (va_wsS RX0 35 yX0_toldBy wsX0_toldBy) := goodIn_app (goodIn_of _ (by decide +kernel)) ggX0_textOf_X0_toldBy
set_option maxRecDepth 20000 in
theorem ggX0_textOf_X0_isMarked : GoodIn wsX0_textOf wsX0_isMarked := goodIn_r _ [224] (by decide +kernel) (by decide +kernel)
set_option maxRecDepth 20000 in
theorem gX0_textOf_X0_isMarked : GoodIn wsX0_textOf (va_wsS RX0 39 yX0_isMarked wsX0_isMarked) := goodIn_app (goodIn_of _ (by decide +kernel)) ggX0_textOf_X0_isMarked
theorem dX0_textOf_0 : decode cX0_textOf 0 = .ok (.iload_n 0, 1) := by decide +kernel
theorem dX0_textOf_1 : decode cX0_textOf 1 = .ok (.invokestatic 11, 3) := by decide +kernel
theorem dX0_textOf_4 : decode cX0_textOf 4 = .ok (.istore_n 1, 1) := by decide +kernel
theorem dX0_textOf_5 : decode cX0_textOf 5 = .ok (.new 15, 3) := by decide +kernel
theorem dX0_textOf_8 : decode cX0_textOf 8 = .ok (.dup, 1) := by decide +kernel
theorem dX0_textOf_9 : decode cX0_textOf 9 = .ok (.invokespecial 17, 3) := by decide +kernel
theorem dX0_textOf_12 : decode cX0_textOf 12 = .ok (.astore_n 2, 1) := by decide +kernel
theorem dX0_textOf_13 : decode cX0_textOf 13 = .ok (.aload_n 2, 1) := by decide +kernel
theorem dX0_textOf_14 : decode cX0_textOf 14 = .ok (.iload_n 0, 1) := by decide +kernel
theorem dX0_textOf_15 : decode cX0_textOf 15 = .ok (.invokestatic 18, 3) := by decide +kernel
theorem dX0_textOf_18 : decode cX0_textOf 18 = .ok (.invokevirtual 21, 3) := by decide +kernel
theorem dX0_textOf_21 : decode cX0_textOf 21 = .ok (.bipush 32, 2) := by decide +kernel
theorem dX0_textOf_23 : decode cX0_textOf 23 = .ok (.invokevirtual 25, 3) := by decide +kernel
theorem dX0_textOf_26 : decode cX0_textOf 26 = .ok (.iload_n 1, 1) := by decide +kernel
theorem dX0_textOf_27 : decode cX0_textOf 27 = .ok (.invokestatic 28, 3) := by decide +kernel
theorem dX0_textOf_30 : decode cX0_textOf 30 = .ok (.invokevirtual 32, 3) := by decide +kernel
theorem dX0_textOf_33 : decode cX0_textOf 33 = .ok (.pop, 1) := by decide +kernel
theorem dX0_textOf_34 : decode cX0_textOf 34 = .ok (.iload_n 1, 1) := by decide +kernel
theorem dX0_textOf_35 : decode cX0_textOf 35 = .ok (.iconst 3, 1) := by decide +kernel
theorem dX0_textOf_36 : decode cX0_textOf 36 = .ok (.if_icmp .eq 13, 3) := by decide +kernel
theorem dX0_textOf_39 : decode cX0_textOf 39 = .ok (.iload_n 1, 1) := by decide +kernel
theorem dX0_textOf_40 : decode cX0_textOf 40 = .ok (.iconst 4, 1) := by decide +kernel
theorem dX0_textOf_41 : decode cX0_textOf 41 = .ok (.if_icmp .eq 8, 3) := by decide +kernel
theorem dX0_textOf_44 : decode cX0_textOf 44 = .ok (.iload_n 1, 1) := by decide +kernel
theorem dX0_textOf_45 : decode cX0_textOf 45 = .ok (.iconst 5, 1) := by decide +kernel
theorem dX0_textOf_46 : decode cX0_textOf 46 = .ok (.if_icmp .ne 17, 3) := by decide +kernel
theorem dX0_textOf_49 : decode cX0_textOf 49 = .ok (.aload_n 2, 1) := by decide +kernel
theorem dX0_textOf_50 : decode cX0_textOf 50 = .ok (.bipush 32, 2) := by decide +kernel
theorem dX0_textOf_52 : decode cX0_textOf 52 = .ok (.invokevirtual 25, 3) := by decide +kernel
theorem dX0_textOf_55 : decode cX0_textOf 55 = .ok (.iload_n 0, 1) := by decide +kernel
theorem dX0_textOf_56 : decode cX0_textOf 56 = .ok (.invokestatic 35, 3) := by decide +kernel
theorem dX0_textOf_59 : decode cX0_textOf 59 = .ok (.invokevirtual 21, 3) := by decide +kernel
theorem dX0_textOf_62 : decode cX0_textOf 62 = .ok (.pop, 1) := by decide +kernel
theorem dX0_textOf_63 : decode cX0_textOf 63 = .ok (.iload_n 0, 1) := by decide +kernel
theorem dX0_textOf_64 : decode cX0_textOf 64 = .ok (.ldc 38, 2) := by decide +kernel
theorem dX0_textOf_66 : decode cX0_textOf 66 = .ok (.invokestatic 39, 3) := by decide +kernel
theorem dX0_textOf_69 : decode cX0_textOf 69 = .ok (.ifCond .eq 10, 3) := by decide +kernel
theorem dX0_textOf_72 : decode cX0_textOf 72 = .ok (.aload_n 2, 1) := by decide +kernel
theorem dX0_textOf_73 : decode cX0_textOf 73 = .ok (.ldc 43, 2) := by decide +kernel
theorem dX0_textOf_75 : decode cX0_textOf 75 = .ok (.invokevirtual 32, 3) := by decide +kernel
theorem dX0_textOf_78 : decode cX0_textOf 78 = .ok (.pop, 1) := by decide +kernel
theorem dX0_textOf_79 : decode cX0_textOf 79 = .ok (.iload_n 0, 1) := by decide +kernel
theorem dX0_textOf_80 : decode cX0_textOf 80 = .ok (.ldc 45, 2) := by decide +kernel
theorem dX0_textOf_82 : decode cX0_textOf 82 = .ok (.invokestatic 39, 3) := by decide +kernel
theorem dX0_textOf_85 : decode cX0_textOf 85 = .ok (.ifCond .eq 10, 3) := by decide +kernel
theorem dX0_textOf_88 : decode cX0_textOf 88 = .ok (.aload_n 2, 1) := by decide +kernel
theorem dX0_textOf_89 : decode cX0_textOf 89 = .ok (.ldc 46, 2) := by decide +kernel
theorem dX0_textOf_91 : decode cX0_textOf 91 = .ok (.invokevirtual 32, 3) := by decide +kernel
theorem dX0_textOf_94 : decode cX0_textOf 94 = .ok (.pop, 1) := by decide +kernel
theorem dX0_textOf_95 : decode cX0_textOf 95 = .ok (.aload_n 2, 1) := by decide +kernel
theorem dX0_textOf_96 : decode cX0_textOf 96 = .ok (.areturn, 1) := by decide +kernel
theorem dX0_nameOf_0 : decode cX0_nameOf 0 = .ok (.iload_n 0, 1) := by decide +kernel
theorem dX0_nameOf_1 : decode cX0_nameOf 1 = .ok (.tableswitch 57 0 5 #[39, 42, 45, 48, 51, 54], 39) := by decide +kernel
theorem dX0_nameOf_40 : decode cX0_nameOf 40 = .ok (.ldc 48, 2) := by decide +kernel
theorem dX0_nameOf_42 : decode cX0_nameOf 42 = .ok (.areturn, 1) := by decide +kernel
theorem dX0_nameOf_43 : decode cX0_nameOf 43 = .ok (.ldc 50, 2) := by decide +kernel
theorem dX0_nameOf_45 : decode cX0_nameOf 45 = .ok (.areturn, 1) := by decide +kernel
theorem dX0_nameOf_46 : decode cX0_nameOf 46 = .ok (.ldc 52, 2) := by decide +kernel
theorem dX0_nameOf_48 : decode cX0_nameOf 48 = .ok (.areturn, 1) := by decide +kernel
theorem dX0_nameOf_49 : decode cX0_nameOf 49 = .ok (.ldc 54, 2) := by decide +kernel
theorem dX0_nameOf_51 : decode cX0_nameOf 51 = .ok (.areturn, 1) := by decide +kernel
theorem dX0_nameOf_52 : decode cX0_nameOf 52 = .ok (.ldc 56, 2) := by decide +kernel
theorem dX0_nameOf_54 : decode cX0_nameOf 54 = .ok (.areturn, 1) := by decide +kernel
theorem dX0_nameOf_55 : decode cX0_nameOf 55 = .ok (.ldc 58, 2) := by decide +kernel
theorem dX0_nameOf_57 : decode cX0_nameOf 57 = .ok (.areturn, 1) := by decide +kernel
theorem dX0_nameOf_58 : decode cX0_nameOf 58 = .ok (.ldc 60, 2) := by decide +kernel
theorem dX0_nameOf_60 : decode cX0_nameOf 60 = .ok (.areturn, 1) := by decide +kernel
set_option maxRecDepth 20000 in
theorem ggX1_init_X2_init : GoodIn wsX1_init wsX2_init := goodIn_r _ [14, 15, 2, 3, 16, 17, 18, 19, 24, 25, 26, 27, 28, 29] (by decide +kernel) (by decide +kernel)
set_option maxRecDepth 20000 in
theorem gX1_init_X2_init_n11 : GoodIn wsX1_init (wsX2_init) := ggX1_init_X2_init
set_option maxRecDepth 20000 in
theorem ggX1_init_X3_init : GoodIn wsX1_init wsX3_init := goodIn_r _ [21, 22, 2, 3, 16, 23, 38, 39] (by decide +kernel) (by decide +kernel)
set_option maxRecDepth 20000 in
theorem gX1_init_X3_init_n20 : GoodIn wsX1_init (wsX3_init) := ggX1_init_X3_init
theorem dX1_init_0 : decode cX1_init 0 = .ok (.aload_n 0, 1) := by decide +kernel
theorem dX1_init_1 : decode cX1_init 1 = .ok (.invokespecial 3, 3) := by decide +kernel
theorem dX1_init_4 : decode cX1_init 4 = .ok (.aload_n 0, 1) := by decide +kernel
theorem dX1_init_5 : decode cX1_init 5 = .ok (.new 9, 3) := by decide +kernel
theorem dX1_init_8 : decode cX1_init 8 = .ok (.dup, 1) := by decide +kernel
theorem dX1_init_9 : decode cX1_init 9 = .ok (.invokespecial 11, 3) := by decide +kernel
theorem dX1_init_12 : decode cX1_init 12 = .ok (.putfield 12, 3) := by decide +kernel
theorem dX1_init_15 : decode cX1_init 15 = .ok (.aload_n 0, 1) := by decide +kernel
theorem dX1_init_16 : decode cX1_init 16 = .ok (.new 18, 3) := by decide +kernel
theorem dX1_init_19 : decode cX1_init 19 = .ok (.dup, 1) := by decide +kernel
theorem dX1_init_20 : decode cX1_init 20 = .ok (.invokespecial 20, 3) := by decide +kernel
theorem dX1_init_23 : decode cX1_init 23 = .ok (.putfield 21, 3) := by decide +kernel
theorem dX1_init_26 : decode cX1_init 26 = .ok (.aload_n 0, 1) := by decide +kernel
theorem dX1_init_27 : decode cX1_init 27 = .ok (.iconst 0, 1) := by decide +kernel
theorem dX1_init_28 : decode cX1_init 28 = .ok (.putfield 25, 3) := by decide +kernel
theorem dX1_init_31 : decode cX1_init 31 = .ok (.return_, 1) := by decide +kernel
theorem dX1_hear_0 : decode cX1_hear 0 = .ok (.aload_n 0, 1) := by decide +kernel
theorem dX1_hear_1 : decode cX1_hear 1 = .ok (.iload_n 1, 1) := by decide +kernel
theorem dX1_hear_2 : decode cX1_hear 2 = .ok (.putfield 29, 3) := by decide +kernel
theorem dX1_hear_5 : decode cX1_hear 5 = .ok (.aload_n 0, 1) := by decide +kernel
theorem dX1_hear_6 : decode cX1_hear 6 = .ok (.iconst 0, 1) := by decide +kernel
theorem dX1_hear_7 : decode cX1_hear 7 = .ok (.putfield 32, 3) := by decide +kernel
theorem dX1_hear_10 : decode cX1_hear 10 = .ok (.return_, 1) := by decide +kernel
theorem dX1_turnOff_0 : decode cX1_turnOff 0 = .ok (.aload_n 0, 1) := by decide +kernel
theorem dX1_turnOff_1 : decode cX1_turnOff 1 = .ok (.iconst 0, 1) := by decide +kernel
theorem dX1_turnOff_2 : decode cX1_turnOff 2 = .ok (.putfield 25, 3) := by decide +kernel
theorem dX1_turnOff_5 : decode cX1_turnOff 5 = .ok (.aload_n 0, 1) := by decide +kernel
theorem dX1_turnOff_6 : decode cX1_turnOff 6 = .ok (.iconst 0, 1) := by decide +kernel
theorem dX1_turnOff_7 : decode cX1_turnOff 7 = .ok (.putfield 36, 3) := by decide +kernel
theorem dX1_turnOff_10 : decode cX1_turnOff 10 = .ok (.return_, 1) := by decide +kernel
theorem dX2_init_0 : decode cX2_init 0 = .ok (.aload_n 0, 1) := by decide +kernel
theorem dX2_init_1 : decode cX2_init 1 = .ok (.invokespecial 3, 3) := by decide +kernel
theorem dX2_init_4 : decode cX2_init 4 = .ok (.aload_n 0, 1) := by decide +kernel
theorem dX2_init_5 : decode cX2_init 5 = .ok (.sipush 200, 3) := by decide +kernel
theorem dX2_init_8 : decode cX2_init 8 = .ok (.newarray .int, 2) := by decide +kernel
theorem dX2_init_10 : decode cX2_init 10 = .ok (.putfield 9, 3) := by decide +kernel
theorem dX2_init_13 : decode cX2_init 13 = .ok (.aload_n 0, 1) := by decide +kernel
theorem dX2_init_14 : decode cX2_init 14 = .ok (.iconst 1, 1) := by decide +kernel
theorem dX2_init_15 : decode cX2_init 15 = .ok (.putfield 15, 3) := by decide +kernel
theorem dX2_init_18 : decode cX2_init 18 = .ok (.aload_n 0, 1) := by decide +kernel
theorem dX2_init_19 : decode cX2_init 19 = .ok (.sipush 200, 3) := by decide +kernel
theorem dX2_init_22 : decode cX2_init 22 = .ok (.newarray .int, 2) := by decide +kernel
theorem dX2_init_24 : decode cX2_init 24 = .ok (.putfield 19, 3) := by decide +kernel
theorem dX2_init_27 : decode cX2_init 27 = .ok (.return_, 1) := by decide +kernel
theorem dX2_isFull_0 : decode cX2_isFull 0 = .ok (.aload_n 0, 1) := by decide +kernel
theorem dX2_isFull_1 : decode cX2_isFull 1 = .ok (.getfield 22, 3) := by decide +kernel
theorem dX2_isFull_4 : decode cX2_isFull 4 = .ok (.sipush 200, 3) := by decide +kernel
theorem dX2_isFull_7 : decode cX2_isFull 7 = .ok (.if_icmp .lt 7, 3) := by decide +kernel
theorem dX2_isFull_10 : decode cX2_isFull 10 = .ok (.iconst 1, 1) := by decide +kernel
theorem dX2_isFull_11 : decode cX2_isFull 11 = .ok (.goto 4, 3) := by decide +kernel
theorem dX2_isFull_14 : decode cX2_isFull 14 = .ok (.iconst 0, 1) := by decide +kernel
theorem dX2_isFull_15 : decode cX2_isFull 15 = .ok (.ireturn, 1) := by decide +kernel
theorem dX2_emptyAll_0 : decode cX2_emptyAll 0 = .ok (.aload_n 0, 1) := by decide +kernel
theorem dX2_emptyAll_1 : decode cX2_emptyAll 1 = .ok (.iconst 0, 1) := by decide +kernel
theorem dX2_emptyAll_2 : decode cX2_emptyAll 2 = .ok (.putfield 22, 3) := by decide +kernel
theorem dX2_emptyAll_5 : decode cX2_emptyAll 5 = .ok (.aload_n 0, 1) := by decide +kernel
theorem dX2_emptyAll_6 : decode cX2_emptyAll 6 = .ok (.iconst 1, 1) := by decide +kernel
theorem dX2_emptyAll_7 : decode cX2_emptyAll 7 = .ok (.putfield 15, 3) := by decide +kernel
theorem dX2_emptyAll_10 : decode cX2_emptyAll 10 = .ok (.aload_n 0, 1) := by decide +kernel
theorem dX2_emptyAll_11 : decode cX2_emptyAll 11 = .ok (.iconst 0, 1) := by decide +kernel
theorem dX2_emptyAll_12 : decode cX2_emptyAll 12 = .ok (.putfield 25, 3) := by decide +kernel
theorem dX2_emptyAll_15 : decode cX2_emptyAll 15 = .ok (.aload_n 0, 1) := by decide +kernel
theorem dX2_emptyAll_16 : decode cX2_emptyAll 16 = .ok (.iconst 0, 1) := by decide +kernel
theorem dX2_emptyAll_17 : decode cX2_emptyAll 17 = .ok (.putfield 28, 3) := by decide +kernel
theorem dX2_emptyAll_20 : decode cX2_emptyAll 20 = .ok (.return_, 1) := by decide +kernel
theorem dX2_keep_0 : decode cX2_keep 0 = .ok (.aload_n 0, 1) := by decide +kernel
theorem dX2_keep_1 : decode cX2_keep 1 = .ok (.getfield 22, 3) := by decide +kernel
theorem dX2_keep_4 : decode cX2_keep 4 = .ok (.ifCond .lt 35, 3) := by decide +kernel
theorem dX2_keep_7 : decode cX2_keep 7 = .ok (.aload_n 0, 1) := by decide +kernel
theorem dX2_keep_8 : decode cX2_keep 8 = .ok (.getfield 22, 3) := by decide +kernel
theorem dX2_keep_11 : decode cX2_keep 11 = .ok (.aload_n 0, 1) := by decide +kernel
theorem dX2_keep_12 : decode cX2_keep 12 = .ok (.getfield 9, 3) := by decide +kernel
theorem dX2_keep_15 : decode cX2_keep 15 = .ok (.arraylength, 1) := by decide +kernel
theorem dX2_keep_16 : decode cX2_keep 16 = .ok (.if_icmp .ge 23, 3) := by decide +kernel
theorem dX2_keep_19 : decode cX2_keep 19 = .ok (.aload_n 0, 1) := by decide +kernel
theorem dX2_keep_20 : decode cX2_keep 20 = .ok (.getfield 9, 3) := by decide +kernel
theorem dX2_keep_23 : decode cX2_keep 23 = .ok (.aload_n 0, 1) := by decide +kernel
theorem dX2_keep_24 : decode cX2_keep 24 = .ok (.getfield 22, 3) := by decide +kernel
theorem dX2_keep_27 : decode cX2_keep 27 = .ok (.iload_n 1, 1) := by decide +kernel
theorem dX2_keep_28 : decode cX2_keep 28 = .ok (.iastore, 1) := by decide +kernel
theorem dX2_keep_29 : decode cX2_keep 29 = .ok (.aload_n 0, 1) := by decide +kernel
theorem dX2_keep_30 : decode cX2_keep 30 = .ok (.dup, 1) := by decide +kernel
theorem dX2_keep_31 : decode cX2_keep 31 = .ok (.getfield 22, 3) := by decide +kernel
theorem dX2_keep_34 : decode cX2_keep 34 = .ok (.iconst 1, 1) := by decide +kernel
theorem dX2_keep_35 : decode cX2_keep 35 = .ok (.iadd, 1) := by decide +kernel
theorem dX2_keep_36 : decode cX2_keep 36 = .ok (.putfield 22, 3) := by decide +kernel
theorem dX2_keep_39 : decode cX2_keep 39 = .ok (.return_, 1) := by decide +kernel
theorem dX2_sentAt_0 : decode cX2_sentAt 0 = .ok (.iload_n 1, 1) := by decide +kernel
theorem dX2_sentAt_1 : decode cX2_sentAt 1 = .ok (.iconst 1, 1) := by decide +kernel
theorem dX2_sentAt_2 : decode cX2_sentAt 2 = .ok (.if_icmp .lt 12, 3) := by decide +kernel
theorem dX2_sentAt_5 : decode cX2_sentAt 5 = .ok (.iload_n 1, 1) := by decide +kernel
theorem dX2_sentAt_6 : decode cX2_sentAt 6 = .ok (.aload_n 0, 1) := by decide +kernel
theorem dX2_sentAt_7 : decode cX2_sentAt 7 = .ok (.getfield 9, 3) := by decide +kernel
theorem dX2_sentAt_10 : decode cX2_sentAt 10 = .ok (.arraylength, 1) := by decide +kernel
theorem dX2_sentAt_11 : decode cX2_sentAt 11 = .ok (.if_icmp .le 5, 3) := by decide +kernel
theorem dX2_sentAt_14 : decode cX2_sentAt 14 = .ok (.iconst (-1), 1) := by decide +kernel
theorem dX2_sentAt_15 : decode cX2_sentAt 15 = .ok (.ireturn, 1) := by decide +kernel
theorem dX2_sentAt_16 : decode cX2_sentAt 16 = .ok (.aload_n 0, 1) := by decide +kernel
theorem dX2_sentAt_17 : decode cX2_sentAt 17 = .ok (.getfield 9, 3) := by decide +kernel
theorem dX2_sentAt_20 : decode cX2_sentAt 20 = .ok (.iload_n 1, 1) := by decide +kernel
theorem dX2_sentAt_21 : decode cX2_sentAt 21 = .ok (.iconst 1, 1) := by decide +kernel
theorem dX2_sentAt_22 : decode cX2_sentAt 22 = .ok (.isub, 1) := by decide +kernel
theorem dX2_sentAt_23 : decode cX2_sentAt 23 = .ok (.iaload, 1) := by decide +kernel
theorem dX2_sentAt_24 : decode cX2_sentAt 24 = .ok (.ireturn, 1) := by decide +kernel
set_option maxRecDepth 20000 in
theorem ggX2_hasBusiness_X2_sentAt : GoodIn wsX2_hasBusiness wsX2_sentAt := goodIn_r _ [6, 7, 12, 13, 14, 15, 16, 17] (by decide +kernel) (by decide +kernel)
set_option maxRecDepth 20000 in
theorem gX2_hasBusiness_X2_sentAt : GoodIn wsX2_hasBusiness (wsV RX2 31 RX2 yX2_sentAt wsX2_sentAt) := goodIn_app (goodIn_of _ (by decide +kernel)) ggX2_hasBusiness_X2_sentAt
set_option maxRecDepth 20000 in
theorem ggX2_hasBusiness_X0_kindOf : GoodIn wsX2_hasBusiness wsX0_kindOf := goodIn_r _ [11] (by decide +kernel) (by decide +kernel)
set_option maxRecDepth 20000 in
theorem gX2_hasBusiness_X0_kindOf : GoodIn wsX2_hasBusiness (va_wsS RX2 35 yX0_kindOf wsX0_kindOf) := goodIn_app (goodIn_of _ (by decide +kernel)) ggX2_hasBusiness_X0_kindOf
theorem dX2_hasBusiness_0 : decode cX2_hasBusiness 0 = .ok (.iload_n 1, 1) := by decide +kernel
theorem dX2_hasBusiness_1 : decode cX2_hasBusiness 1 = .ok (.iconst 1, 1) := by decide +kernel
theorem dX2_hasBusiness_2 : decode cX2_hasBusiness 2 = .ok (.if_icmp .lt 27, 3) := by decide +kernel
theorem dX2_hasBusiness_5 : decode cX2_hasBusiness 5 = .ok (.iload_n 1, 1) := by decide +kernel
theorem dX2_hasBusiness_6 : decode cX2_hasBusiness 6 = .ok (.aload_n 0, 1) := by decide +kernel
theorem dX2_hasBusiness_7 : decode cX2_hasBusiness 7 = .ok (.getfield 22, 3) := by decide +kernel
theorem dX2_hasBusiness_10 : decode cX2_hasBusiness 10 = .ok (.if_icmp .gt 19, 3) := by decide +kernel
theorem dX2_hasBusiness_13 : decode cX2_hasBusiness 13 = .ok (.aload_n 0, 1) := by decide +kernel
theorem dX2_hasBusiness_14 : decode cX2_hasBusiness 14 = .ok (.iload_n 1, 1) := by decide +kernel
theorem dX2_hasBusiness_15 : decode cX2_hasBusiness 15 = .ok (.invokevirtual 31, 3) := by decide +kernel
theorem dX2_hasBusiness_18 : decode cX2_hasBusiness 18 = .ok (.invokestatic 35, 3) := by decide +kernel
theorem dX2_hasBusiness_21 : decode cX2_hasBusiness 21 = .ok (.iconst 5, 1) := by decide +kernel
theorem dX2_hasBusiness_22 : decode cX2_hasBusiness 22 = .ok (.if_icmp .ne 7, 3) := by decide +kernel
theorem dX2_hasBusiness_25 : decode cX2_hasBusiness 25 = .ok (.iconst 1, 1) := by decide +kernel
theorem dX2_hasBusiness_26 : decode cX2_hasBusiness 26 = .ok (.goto 4, 3) := by decide +kernel
theorem dX2_hasBusiness_29 : decode cX2_hasBusiness 29 = .ok (.iconst 0, 1) := by decide +kernel
theorem dX2_hasBusiness_30 : decode cX2_hasBusiness 30 = .ok (.ireturn, 1) := by decide +kernel
set_option maxRecDepth 20000 in
theorem ggX2_tellsKey_X2_hasBusiness : GoodIn wsX2_tellsKey wsX2_hasBusiness := goodIn_r _ [6, 7, 8, 9, 10, 5, 11, 12, 13, 14, 15, 16, 27, 28, 29, 30, 31, 32] (by decide +kernel) (by decide +kernel)
set_option maxRecDepth 20000 in
theorem gX2_tellsKey_X2_hasBusiness : GoodIn wsX2_tellsKey (wsV RX2 40 RX2 yX2_hasBusiness wsX2_hasBusiness) := goodIn_app (goodIn_of _ (by decide +kernel)) ggX2_tellsKey_X2_hasBusiness
set_option maxRecDepth 20000 in
theorem ggX2_tellsKey_X2_sentAt : GoodIn wsX2_tellsKey wsX2_sentAt := goodIn_r _ [11, 12, 27, 28, 29, 30, 31, 32] (by decide +kernel) (by decide +kernel)
set_option maxRecDepth 20000 in
theorem gX2_tellsKey_X2_sentAt : GoodIn wsX2_tellsKey (wsV RX2 31 RX2 yX2_sentAt wsX2_sentAt) := goodIn_app (goodIn_of _ (by decide +kernel)) ggX2_tellsKey_X2_sentAt
set_option maxRecDepth 20000 in
theorem ggX2_tellsKey_X0_isMarked : GoodIn wsX2_tellsKey wsX0_isMarked := goodIn_r _ [19] (by decide +kernel) (by decide +kernel)
set_option maxRecDepth 20000 in
theorem gX2_tellsKey_X0_isMarked : GoodIn wsX2_tellsKey (va_wsS RX2 45 yX0_isMarked wsX0_isMarked) := goodIn_app (goodIn_of _ (by decide +kernel)) ggX2_tellsKey_X0_isMarked
set_option maxRecDepth 20000 in
theorem ggX2_tellsKey_X0_toldBy : GoodIn wsX2_tellsKey wsX0_toldBy := goodIn_r _ [22] (by decide +kernel) (by decide +kernel)
set_option maxRecDepth 20000 in
theorem gX2_tellsKey_X0_toldBy : GoodIn wsX2_tellsKey (va_wsS RX2 49 yX0_toldBy wsX0_toldBy) := goodIn_app (goodIn_of _ (by decide +kernel)) ggX2_tellsKey_X0_toldBy
set_option maxRecDepth 20000 in
theorem ggX2_tellsKey_X2_hasKeyAhead : GoodIn wsX2_tellsKey wsX2_hasKeyAhead := goodIn_r _ [26, 2, 3, 4, 5, 6, 7, 8, 9, 10, 11, 12, 13, 14, 15, 16, 20, 21, 22, 27, 28, 29, 30, 31, 32] (by decide +kernel) (by decide +kernel)
set_option maxRecDepth 20000 in
theorem gX2_tellsKey_X2_hasKeyAhead : GoodIn wsX2_tellsKey (wsV RX2 52 RX2 yX2_hasKeyAhead wsX2_hasKeyAhead) := goodIn_app (goodIn_of _ (by decide +kernel)) ggX2_tellsKey_X2_hasKeyAhead
theorem dX2_tellsKey_0 : decode cX2_tellsKey 0 = .ok (.aload_n 0, 1) := by decide +kernel
theorem dX2_tellsKey_1 : decode cX2_tellsKey 1 = .ok (.iload_n 1, 1) := by decide +kernel
theorem dX2_tellsKey_2 : decode cX2_tellsKey 2 = .ok (.invokevirtual 40, 3) := by decide +kernel
theorem dX2_tellsKey_5 : decode cX2_tellsKey 5 = .ok (.ifCond .ne 5, 3) := by decide +kernel
theorem dX2_tellsKey_8 : decode cX2_tellsKey 8 = .ok (.iconst 0, 1) := by decide +kernel
theorem dX2_tellsKey_9 : decode cX2_tellsKey 9 = .ok (.ireturn, 1) := by decide +kernel
theorem dX2_tellsKey_10 : decode cX2_tellsKey 10 = .ok (.aload_n 0, 1) := by decide +kernel
theorem dX2_tellsKey_11 : decode cX2_tellsKey 11 = .ok (.iload_n 1, 1) := by decide +kernel
theorem dX2_tellsKey_12 : decode cX2_tellsKey 12 = .ok (.invokevirtual 31, 3) := by decide +kernel
theorem dX2_tellsKey_15 : decode cX2_tellsKey 15 = .ok (.istore_n 2, 1) := by decide +kernel
theorem dX2_tellsKey_16 : decode cX2_tellsKey 16 = .ok (.iload_n 2, 1) := by decide +kernel
theorem dX2_tellsKey_17 : decode cX2_tellsKey 17 = .ok (.ldc 44, 2) := by decide +kernel
theorem dX2_tellsKey_19 : decode cX2_tellsKey 19 = .ok (.invokestatic 45, 3) := by decide +kernel
theorem dX2_tellsKey_22 : decode cX2_tellsKey 22 = .ok (.ifCond .eq 15, 3) := by decide +kernel
theorem dX2_tellsKey_25 : decode cX2_tellsKey 25 = .ok (.aload_n 0, 1) := by decide +kernel
theorem dX2_tellsKey_26 : decode cX2_tellsKey 26 = .ok (.iload_n 2, 1) := by decide +kernel
theorem dX2_tellsKey_27 : decode cX2_tellsKey 27 = .ok (.invokestatic 49, 3) := by decide +kernel
theorem dX2_tellsKey_30 : decode cX2_tellsKey 30 = .ok (.iload_n 1, 1) := by decide +kernel
theorem dX2_tellsKey_31 : decode cX2_tellsKey 31 = .ok (.invokevirtual 52, 3) := by decide +kernel
theorem dX2_tellsKey_34 : decode cX2_tellsKey 34 = .ok (.ifCond .ne 7, 3) := by decide +kernel
theorem dX2_tellsKey_37 : decode cX2_tellsKey 37 = .ok (.iconst 1, 1) := by decide +kernel
theorem dX2_tellsKey_38 : decode cX2_tellsKey 38 = .ok (.goto 4, 3) := by decide +kernel
theorem dX2_tellsKey_41 : decode cX2_tellsKey 41 = .ok (.iconst 0, 1) := by decide +kernel
theorem dX2_tellsKey_42 : decode cX2_tellsKey 42 = .ok (.ireturn, 1) := by decide +kernel
set_option maxRecDepth 20000 in
theorem ggX2_hasKeyAhead_X2_hasBusiness : GoodIn wsX2_hasKeyAhead wsX2_hasBusiness := goodIn_r _ [5, 6, 7, 8, 9, 4, 10, 11, 12, 13, 14, 15, 19, 20, 21, 22, 23, 24] (by decide +kernel) (by decide +kernel)
set_option maxRecDepth 20000 in
theorem gX2_hasKeyAhead_X2_hasBusiness : GoodIn wsX2_hasKeyAhead (wsV RX2 40 RX2 yX2_hasBusiness wsX2_hasBusiness) := goodIn_app (goodIn_of _ (by decide +kernel)) ggX2_hasKeyAhead_X2_hasBusiness
set_option maxRecDepth 20000 in
theorem ggX2_hasKeyAhead_X2_sentAt : GoodIn wsX2_hasKeyAhead wsX2_sentAt := goodIn_r _ [10, 11, 19, 20, 21, 22, 23, 24] (by decide +kernel) (by decide +kernel)
set_option maxRecDepth 20000 in
theorem gX2_hasKeyAhead_X2_sentAt : GoodIn wsX2_hasKeyAhead (wsV RX2 31 RX2 yX2_sentAt wsX2_sentAt) := goodIn_app (goodIn_of _ (by decide +kernel)) ggX2_hasKeyAhead_X2_sentAt
set_option maxRecDepth 20000 in
theorem ggX2_hasKeyAhead_X0_toldBy : GoodIn wsX2_hasKeyAhead wsX0_toldBy := goodIn_r _ [18] (by decide +kernel) (by decide +kernel)
set_option maxRecDepth 20000 in
theorem gX2_hasKeyAhead_X0_toldBy : GoodIn wsX2_hasKeyAhead (va_wsS RX2 49 yX0_toldBy wsX0_toldBy) := goodIn_app (goodIn_of _ (by decide +kernel)) ggX2_hasKeyAhead_X0_toldBy
theorem dX2_hasKeyAhead_0 : decode cX2_hasKeyAhead 0 = .ok (.iconst 1, 1) := by decide +kernel
theorem dX2_hasKeyAhead_1 : decode cX2_hasKeyAhead 1 = .ok (.istore_n 3, 1) := by decide +kernel
theorem dX2_hasKeyAhead_2 : decode cX2_hasKeyAhead 2 = .ok (.iload_n 3, 1) := by decide +kernel
theorem dX2_hasKeyAhead_3 : decode cX2_hasKeyAhead 3 = .ok (.iload_n 2, 1) := by decide +kernel
theorem dX2_hasKeyAhead_4 : decode cX2_hasKeyAhead 4 = .ok (.if_icmp .ge 31, 3) := by decide +kernel
theorem dX2_hasKeyAhead_7 : decode cX2_hasKeyAhead 7 = .ok (.aload_n 0, 1) := by decide +kernel
theorem dX2_hasKeyAhead_8 : decode cX2_hasKeyAhead 8 = .ok (.iload_n 3, 1) := by decide +kernel
theorem dX2_hasKeyAhead_9 : decode cX2_hasKeyAhead 9 = .ok (.invokevirtual 40, 3) := by decide +kernel
theorem dX2_hasKeyAhead_12 : decode cX2_hasKeyAhead 12 = .ok (.ifCond .eq 17, 3) := by decide +kernel
theorem dX2_hasKeyAhead_15 : decode cX2_hasKeyAhead 15 = .ok (.aload_n 0, 1) := by decide +kernel
theorem dX2_hasKeyAhead_16 : decode cX2_hasKeyAhead 16 = .ok (.iload_n 3, 1) := by decide +kernel
theorem dX2_hasKeyAhead_17 : decode cX2_hasKeyAhead 17 = .ok (.invokevirtual 31, 3) := by decide +kernel
theorem dX2_hasKeyAhead_20 : decode cX2_hasKeyAhead 20 = .ok (.invokestatic 49, 3) := by decide +kernel
theorem dX2_hasKeyAhead_23 : decode cX2_hasKeyAhead 23 = .ok (.iload_n 1, 1) := by decide +kernel
theorem dX2_hasKeyAhead_24 : decode cX2_hasKeyAhead 24 = .ok (.if_icmp .ne 5, 3) := by decide +kernel
theorem dX2_hasKeyAhead_27 : decode cX2_hasKeyAhead 27 = .ok (.iconst 1, 1) := by decide +kernel
theorem dX2_hasKeyAhead_28 : decode cX2_hasKeyAhead 28 = .ok (.ireturn, 1) := by decide +kernel
theorem dX2_hasKeyAhead_29 : decode cX2_hasKeyAhead 29 = .ok (.iinc 3 1, 3) := by decide +kernel
theorem dX2_hasKeyAhead_32 : decode cX2_hasKeyAhead 32 = .ok (.goto (-30), 3) := by decide +kernel
theorem dX2_hasKeyAhead_35 : decode cX2_hasKeyAhead 35 = .ok (.iconst 0, 1) := by decide +kernel
theorem dX2_hasKeyAhead_36 : decode cX2_hasKeyAhead 36 = .ok (.ireturn, 1) := by decide +kernel
theorem dX2_addKey_0 : decode cX2_addKey 0 = .ok (.aload_n 0, 1) := by decide +kernel
theorem dX2_addKey_1 : decode cX2_addKey 1 = .ok (.getfield 25, 3) := by decide +kernel
theorem dX2_addKey_4 : decode cX2_addKey 4 = .ok (.ifCond .lt 35, 3) := by decide +kernel
theorem dX2_addKey_7 : decode cX2_addKey 7 = .ok (.aload_n 0, 1) := by decide +kernel
theorem dX2_addKey_8 : decode cX2_addKey 8 = .ok (.getfield 25, 3) := by decide +kernel
theorem dX2_addKey_11 : decode cX2_addKey 11 = .ok (.aload_n 0, 1) := by decide +kernel
theorem dX2_addKey_12 : decode cX2_addKey 12 = .ok (.getfield 19, 3) := by decide +kernel
theorem dX2_addKey_15 : decode cX2_addKey 15 = .ok (.arraylength, 1) := by decide +kernel
theorem dX2_addKey_16 : decode cX2_addKey 16 = .ok (.if_icmp .ge 23, 3) := by decide +kernel
theorem dX2_addKey_19 : decode cX2_addKey 19 = .ok (.aload_n 0, 1) := by decide +kernel
theorem dX2_addKey_20 : decode cX2_addKey 20 = .ok (.getfield 19, 3) := by decide +kernel
theorem dX2_addKey_23 : decode cX2_addKey 23 = .ok (.aload_n 0, 1) := by decide +kernel
theorem dX2_addKey_24 : decode cX2_addKey 24 = .ok (.getfield 25, 3) := by decide +kernel
theorem dX2_addKey_27 : decode cX2_addKey 27 = .ok (.iload_n 1, 1) := by decide +kernel
theorem dX2_addKey_28 : decode cX2_addKey 28 = .ok (.iastore, 1) := by decide +kernel
theorem dX2_addKey_29 : decode cX2_addKey 29 = .ok (.aload_n 0, 1) := by decide +kernel
theorem dX2_addKey_30 : decode cX2_addKey 30 = .ok (.dup, 1) := by decide +kernel
theorem dX2_addKey_31 : decode cX2_addKey 31 = .ok (.getfield 25, 3) := by decide +kernel
theorem dX2_addKey_34 : decode cX2_addKey 34 = .ok (.iconst 1, 1) := by decide +kernel
theorem dX2_addKey_35 : decode cX2_addKey 35 = .ok (.iadd, 1) := by decide +kernel
theorem dX2_addKey_36 : decode cX2_addKey 36 = .ok (.putfield 25, 3) := by decide +kernel
theorem dX2_addKey_39 : decode cX2_addKey 39 = .ok (.return_, 1) := by decide +kernel
theorem dX2_keyAt_0 : decode cX2_keyAt 0 = .ok (.iload_n 1, 1) := by decide +kernel
theorem dX2_keyAt_1 : decode cX2_keyAt 1 = .ok (.ifCond .lt 12, 3) := by decide +kernel
theorem dX2_keyAt_4 : decode cX2_keyAt 4 = .ok (.iload_n 1, 1) := by decide +kernel
theorem dX2_keyAt_5 : decode cX2_keyAt 5 = .ok (.aload_n 0, 1) := by decide +kernel
theorem dX2_keyAt_6 : decode cX2_keyAt 6 = .ok (.getfield 19, 3) := by decide +kernel
theorem dX2_keyAt_9 : decode cX2_keyAt 9 = .ok (.arraylength, 1) := by decide +kernel
theorem dX2_keyAt_10 : decode cX2_keyAt 10 = .ok (.if_icmp .lt 5, 3) := by decide +kernel
theorem dX2_keyAt_13 : decode cX2_keyAt 13 = .ok (.iconst (-1), 1) := by decide +kernel
theorem dX2_keyAt_14 : decode cX2_keyAt 14 = .ok (.ireturn, 1) := by decide +kernel
theorem dX2_keyAt_15 : decode cX2_keyAt 15 = .ok (.aload_n 0, 1) := by decide +kernel
theorem dX2_keyAt_16 : decode cX2_keyAt 16 = .ok (.getfield 19, 3) := by decide +kernel
theorem dX2_keyAt_19 : decode cX2_keyAt 19 = .ok (.iload_n 1, 1) := by decide +kernel
theorem dX2_keyAt_20 : decode cX2_keyAt 20 = .ok (.iaload, 1) := by decide +kernel
theorem dX2_keyAt_21 : decode cX2_keyAt 21 = .ok (.ireturn, 1) := by decide +kernel
set_option maxRecDepth 20000 in
theorem ggX2_hasHandled_X2_keyAt : GoodIn wsX2_hasHandled wsX2_keyAt := goodIn_r _ [6, 7, 8, 9, 10, 11, 12, 13] (by decide +kernel) (by decide +kernel)
set_option maxRecDepth 20000 in
theorem gX2_hasHandled_X2_keyAt : GoodIn wsX2_hasHandled (wsV RX2 55 RX2 yX2_keyAt wsX2_keyAt) := goodIn_app (goodIn_of _ (by decide +kernel)) ggX2_hasHandled_X2_keyAt
theorem dX2_hasHandled_0 : decode cX2_hasHandled 0 = .ok (.iconst 0, 1) := by decide +kernel
theorem dX2_hasHandled_1 : decode cX2_hasHandled 1 = .ok (.istore_n 2, 1) := by decide +kernel
theorem dX2_hasHandled_2 : decode cX2_hasHandled 2 = .ok (.iload_n 2, 1) := by decide +kernel
theorem dX2_hasHandled_3 : decode cX2_hasHandled 3 = .ok (.aload_n 0, 1) := by decide +kernel
theorem dX2_hasHandled_4 : decode cX2_hasHandled 4 = .ok (.getfield 25, 3) := by decide +kernel
theorem dX2_hasHandled_7 : decode cX2_hasHandled 7 = .ok (.if_icmp .ge 20, 3) := by decide +kernel
theorem dX2_hasHandled_10 : decode cX2_hasHandled 10 = .ok (.aload_n 0, 1) := by decide +kernel
theorem dX2_hasHandled_11 : decode cX2_hasHandled 11 = .ok (.iload_n 2, 1) := by decide +kernel
theorem dX2_hasHandled_12 : decode cX2_hasHandled 12 = .ok (.invokevirtual 55, 3) := by decide +kernel
theorem dX2_hasHandled_15 : decode cX2_hasHandled 15 = .ok (.iload_n 1, 1) := by decide +kernel
theorem dX2_hasHandled_16 : decode cX2_hasHandled 16 = .ok (.if_icmp .ne 5, 3) := by decide +kernel
theorem dX2_hasHandled_19 : decode cX2_hasHandled 19 = .ok (.iconst 1, 1) := by decide +kernel
theorem dX2_hasHandled_20 : decode cX2_hasHandled 20 = .ok (.ireturn, 1) := by decide +kernel
theorem dX2_hasHandled_21 : decode cX2_hasHandled 21 = .ok (.iinc 2 1, 3) := by decide +kernel
theorem dX2_hasHandled_24 : decode cX2_hasHandled 24 = .ok (.goto (-22), 3) := by decide +kernel
theorem dX2_hasHandled_27 : decode cX2_hasHandled 27 = .ok (.iconst 0, 1) := by decide +kernel
theorem dX2_hasHandled_28 : decode cX2_hasHandled 28 = .ok (.ireturn, 1) := by decide +kernel
theorem dX3_init_0 : decode cX3_init 0 = .ok (.aload_n 0, 1) := by decide +kernel
theorem dX3_init_1 : decode cX3_init 1 = .ok (.invokespecial 3, 3) := by decide +kernel
theorem dX3_init_4 : decode cX3_init 4 = .ok (.aload_n 0, 1) := by decide +kernel
theorem dX3_init_5 : decode cX3_init 5 = .ok (.bipush 60, 2) := by decide +kernel
theorem dX3_init_7 : decode cX3_init 7 = .ok (.newarray .int, 2) := by decide +kernel
theorem dX3_init_9 : decode cX3_init 9 = .ok (.putfield 9, 3) := by decide +kernel
theorem dX3_init_12 : decode cX3_init 12 = .ok (.return_, 1) := by decide +kernel
theorem dX3_put_0 : decode cX3_put 0 = .ok (.aload_n 0, 1) := by decide +kernel
theorem dX3_put_1 : decode cX3_put 1 = .ok (.getfield 15, 3) := by decide +kernel
theorem dX3_put_4 : decode cX3_put 4 = .ok (.ifCond .lt 35, 3) := by decide +kernel
theorem dX3_put_7 : decode cX3_put 7 = .ok (.aload_n 0, 1) := by decide +kernel
theorem dX3_put_8 : decode cX3_put 8 = .ok (.getfield 15, 3) := by decide +kernel
theorem dX3_put_11 : decode cX3_put 11 = .ok (.aload_n 0, 1) := by decide +kernel
theorem dX3_put_12 : decode cX3_put 12 = .ok (.getfield 9, 3) := by decide +kernel
theorem dX3_put_15 : decode cX3_put 15 = .ok (.arraylength, 1) := by decide +kernel
theorem dX3_put_16 : decode cX3_put 16 = .ok (.if_icmp .ge 23, 3) := by decide +kernel
theorem dX3_put_19 : decode cX3_put 19 = .ok (.aload_n 0, 1) := by decide +kernel
theorem dX3_put_20 : decode cX3_put 20 = .ok (.getfield 9, 3) := by decide +kernel
theorem dX3_put_23 : decode cX3_put 23 = .ok (.aload_n 0, 1) := by decide +kernel
theorem dX3_put_24 : decode cX3_put 24 = .ok (.getfield 15, 3) := by decide +kernel
theorem dX3_put_27 : decode cX3_put 27 = .ok (.iload_n 1, 1) := by decide +kernel
theorem dX3_put_28 : decode cX3_put 28 = .ok (.iastore, 1) := by decide +kernel
theorem dX3_put_29 : decode cX3_put 29 = .ok (.aload_n 0, 1) := by decide +kernel
theorem dX3_put_30 : decode cX3_put 30 = .ok (.dup, 1) := by decide +kernel
theorem dX3_put_31 : decode cX3_put 31 = .ok (.getfield 15, 3) := by decide +kernel
theorem dX3_put_34 : decode cX3_put 34 = .ok (.iconst 1, 1) := by decide +kernel
theorem dX3_put_35 : decode cX3_put 35 = .ok (.iadd, 1) := by decide +kernel
theorem dX3_put_36 : decode cX3_put 36 = .ok (.putfield 15, 3) := by decide +kernel
theorem dX3_put_39 : decode cX3_put 39 = .ok (.return_, 1) := by decide +kernel
theorem dX3_messageOn_0 : decode cX3_messageOn 0 = .ok (.iload_n 1, 1) := by decide +kernel
theorem dX3_messageOn_1 : decode cX3_messageOn 1 = .ok (.ifCond .lt 12, 3) := by decide +kernel
theorem dX3_messageOn_4 : decode cX3_messageOn 4 = .ok (.iload_n 1, 1) := by decide +kernel
theorem dX3_messageOn_5 : decode cX3_messageOn 5 = .ok (.aload_n 0, 1) := by decide +kernel
theorem dX3_messageOn_6 : decode cX3_messageOn 6 = .ok (.getfield 9, 3) := by decide +kernel
theorem dX3_messageOn_9 : decode cX3_messageOn 9 = .ok (.arraylength, 1) := by decide +kernel
theorem dX3_messageOn_10 : decode cX3_messageOn 10 = .ok (.if_icmp .lt 5, 3) := by decide +kernel
theorem dX3_messageOn_13 : decode cX3_messageOn 13 = .ok (.iconst (-1), 1) := by decide +kernel
theorem dX3_messageOn_14 : decode cX3_messageOn 14 = .ok (.ireturn, 1) := by decide +kernel
theorem dX3_messageOn_15 : decode cX3_messageOn 15 = .ok (.aload_n 0, 1) := by decide +kernel
theorem dX3_messageOn_16 : decode cX3_messageOn 16 = .ok (.getfield 9, 3) := by decide +kernel
theorem dX3_messageOn_19 : decode cX3_messageOn 19 = .ok (.iload_n 1, 1) := by decide +kernel
theorem dX3_messageOn_20 : decode cX3_messageOn 20 = .ok (.iaload, 1) := by decide +kernel
theorem dX3_messageOn_21 : decode cX3_messageOn 21 = .ok (.ireturn, 1) := by decide +kernel
set_option maxRecDepth 20000 in
theorem ggX3_removeFirst_X3_messageOn : GoodIn wsX3_removeFirst wsX3_messageOn := goodIn_r _ [7, 2, 8, 9] (by decide +kernel) (by decide +kernel)
set_option maxRecDepth 20000 in
theorem gX3_removeFirst_X3_messageOn : GoodIn wsX3_removeFirst (wsV RX3 19 RX3 yX3_messageOn wsX3_messageOn) := goodIn_app (goodIn_of _ (by decide +kernel)) ggX3_removeFirst_X3_messageOn
theorem dX3_removeFirst_0 : decode cX3_removeFirst 0 = .ok (.aload_n 0, 1) := by decide +kernel
theorem dX3_removeFirst_1 : decode cX3_removeFirst 1 = .ok (.getfield 15, 3) := by decide +kernel
theorem dX3_removeFirst_4 : decode cX3_removeFirst 4 = .ok (.ifCond .gt 5, 3) := by decide +kernel
theorem dX3_removeFirst_7 : decode cX3_removeFirst 7 = .ok (.iconst (-1), 1) := by decide +kernel
theorem dX3_removeFirst_8 : decode cX3_removeFirst 8 = .ok (.ireturn, 1) := by decide +kernel
theorem dX3_removeFirst_9 : decode cX3_removeFirst 9 = .ok (.aload_n 0, 1) := by decide +kernel
theorem dX3_removeFirst_10 : decode cX3_removeFirst 10 = .ok (.iconst 0, 1) := by decide +kernel
theorem dX3_removeFirst_11 : decode cX3_removeFirst 11 = .ok (.invokevirtual 19, 3) := by decide +kernel
theorem dX3_removeFirst_14 : decode cX3_removeFirst 14 = .ok (.istore_n 1, 1) := by decide +kernel
theorem dX3_removeFirst_15 : decode cX3_removeFirst 15 = .ok (.iconst 1, 1) := by decide +kernel
theorem dX3_removeFirst_16 : decode cX3_removeFirst 16 = .ok (.istore_n 2, 1) := by decide +kernel
theorem dX3_removeFirst_17 : decode cX3_removeFirst 17 = .ok (.iload_n 2, 1) := by decide +kernel
theorem dX3_removeFirst_18 : decode cX3_removeFirst 18 = .ok (.aload_n 0, 1) := by decide +kernel
theorem dX3_removeFirst_19 : decode cX3_removeFirst 19 = .ok (.getfield 15, 3) := by decide +kernel
theorem dX3_removeFirst_22 : decode cX3_removeFirst 22 = .ok (.if_icmp .ge 32, 3) := by decide +kernel
theorem dX3_removeFirst_25 : decode cX3_removeFirst 25 = .ok (.iload_n 2, 1) := by decide +kernel
theorem dX3_removeFirst_26 : decode cX3_removeFirst 26 = .ok (.aload_n 0, 1) := by decide +kernel
theorem dX3_removeFirst_27 : decode cX3_removeFirst 27 = .ok (.getfield 9, 3) := by decide +kernel
theorem dX3_removeFirst_30 : decode cX3_removeFirst 30 = .ok (.arraylength, 1) := by decide +kernel
theorem dX3_removeFirst_31 : decode cX3_removeFirst 31 = .ok (.if_icmp .ge 23, 3) := by decide +kernel
theorem dX3_removeFirst_34 : decode cX3_removeFirst 34 = .ok (.aload_n 0, 1) := by decide +kernel
theorem dX3_removeFirst_35 : decode cX3_removeFirst 35 = .ok (.getfield 9, 3) := by decide +kernel
theorem dX3_removeFirst_38 : decode cX3_removeFirst 38 = .ok (.iload_n 2, 1) := by decide +kernel
theorem dX3_removeFirst_39 : decode cX3_removeFirst 39 = .ok (.iconst 1, 1) := by decide +kernel
theorem dX3_removeFirst_40 : decode cX3_removeFirst 40 = .ok (.isub, 1) := by decide +kernel
theorem dX3_removeFirst_41 : decode cX3_removeFirst 41 = .ok (.aload_n 0, 1) := by decide +kernel
theorem dX3_removeFirst_42 : decode cX3_removeFirst 42 = .ok (.getfield 9, 3) := by decide +kernel
theorem dX3_removeFirst_45 : decode cX3_removeFirst 45 = .ok (.iload_n 2, 1) := by decide +kernel
theorem dX3_removeFirst_46 : decode cX3_removeFirst 46 = .ok (.iaload, 1) := by decide +kernel
theorem dX3_removeFirst_47 : decode cX3_removeFirst 47 = .ok (.iastore, 1) := by decide +kernel
theorem dX3_removeFirst_48 : decode cX3_removeFirst 48 = .ok (.iinc 2 1, 3) := by decide +kernel
theorem dX3_removeFirst_51 : decode cX3_removeFirst 51 = .ok (.goto (-34), 3) := by decide +kernel
theorem dX3_removeFirst_54 : decode cX3_removeFirst 54 = .ok (.aload_n 0, 1) := by decide +kernel
theorem dX3_removeFirst_55 : decode cX3_removeFirst 55 = .ok (.dup, 1) := by decide +kernel
theorem dX3_removeFirst_56 : decode cX3_removeFirst 56 = .ok (.getfield 15, 3) := by decide +kernel
theorem dX3_removeFirst_59 : decode cX3_removeFirst 59 = .ok (.iconst 1, 1) := by decide +kernel
theorem dX3_removeFirst_60 : decode cX3_removeFirst 60 = .ok (.isub, 1) := by decide +kernel
theorem dX3_removeFirst_61 : decode cX3_removeFirst 61 = .ok (.putfield 15, 3) := by decide +kernel
theorem dX3_removeFirst_64 : decode cX3_removeFirst 64 = .ok (.iload_n 1, 1) := by decide +kernel
theorem dX3_removeFirst_65 : decode cX3_removeFirst 65 = .ok (.ireturn, 1) := by decide +kernel
set_option maxRecDepth 20000 in
theorem ggX4_init_X1_init : GoodIn wsX4_init wsX1_init := goodIn_r _ [11, 12, 2, 3, 13, 14, 15, 16, 17, 18, 19, 20, 21, 22, 23, 24, 25, 26, 27, 28, 29, 30, 31, 32, 44, 45, 46, 47, 48, 49, 33, 34, 35, 36, 37, 38, 39, 40, 50, 51] (by decide +kernel) (by decide +kernel)
set_option maxRecDepth 20000 in
theorem gX4_init_X1_init_n9 : GoodIn wsX4_init (wsX1_init) := ggX4_init_X1_init
theorem dX4_init_0 : decode cX4_init 0 = .ok (.aload_n 0, 1) := by decide +kernel
theorem dX4_init_1 : decode cX4_init 1 = .ok (.invokespecial 1, 3) := by decide +kernel
theorem dX4_init_4 : decode cX4_init 4 = .ok (.aload_n 0, 1) := by decide +kernel
theorem dX4_init_5 : decode cX4_init 5 = .ok (.new 7, 3) := by decide +kernel
theorem dX4_init_8 : decode cX4_init 8 = .ok (.dup, 1) := by decide +kernel
theorem dX4_init_9 : decode cX4_init 9 = .ok (.invokespecial 9, 3) := by decide +kernel
theorem dX4_init_12 : decode cX4_init 12 = .ok (.putfield 10, 3) := by decide +kernel
theorem dX4_init_15 : decode cX4_init 15 = .ok (.aload_n 0, 1) := by decide +kernel
theorem dX4_init_16 : decode cX4_init 16 = .ok (.new 7, 3) := by decide +kernel
theorem dX4_init_19 : decode cX4_init 19 = .ok (.dup, 1) := by decide +kernel
theorem dX4_init_20 : decode cX4_init 20 = .ok (.invokespecial 9, 3) := by decide +kernel
theorem dX4_init_23 : decode cX4_init 23 = .ok (.putfield 16, 3) := by decide +kernel
theorem dX4_init_26 : decode cX4_init 26 = .ok (.aload_n 0, 1) := by decide +kernel
theorem dX4_init_27 : decode cX4_init 27 = .ok (.iconst 0, 1) := by decide +kernel
theorem dX4_init_28 : decode cX4_init 28 = .ok (.putfield 19, 3) := by decide +kernel
theorem dX4_init_31 : decode cX4_init 31 = .ok (.return_, 1) := by decide +kernel
set_option maxRecDepth 20000 in
theorem ggX4_logon_X4_checkSide : GoodIn wsX4_logon wsX4_checkSide := goodIn_ca (goodIn_r _ [8, 9, 10] (by decide +kernel) (by decide +kernel)) (goodIn_sub (fun _ h => List.mem_cons_of_mem _ (List.mem_append_right _ h)) (by decide +kernel))
set_option maxRecDepth 20000 in
theorem gX4_logon_X4_checkSide : GoodIn wsX4_logon (wsV RX4 23 RX4 yX4_checkSide wsX4_checkSide) := goodIn_app (goodIn_of _ (by decide +kernel)) ggX4_logon_X4_checkSide
set_option maxRecDepth 20000 in
theorem ggX4_logon_X4_sideOf : GoodIn wsX4_logon wsX4_sideOf := goodIn_r _ [14, 15, 16, 64, 65, 66] (by decide +kernel) (by decide +kernel)
set_option maxRecDepth 20000 in
theorem gX4_logon_X4_sideOf : GoodIn wsX4_logon (wsV RX4 27 RX4 yX4_sideOf wsX4_sideOf) := goodIn_app (goodIn_of _ (by decide +kernel)) ggX4_logon_X4_sideOf
set_option maxRecDepth 20000 in
theorem ggX4_logon_X2_isFull : GoodIn wsX4_logon wsX2_isFull := goodIn_r _ [21, 22, 67, 68, 69, 70, 71, 72] (by decide +kernel) (by decide +kernel)
set_option maxRecDepth 20000 in
theorem gX4_logon_X2_isFull : GoodIn wsX4_logon (wsV RX4 38 RX2 yX2_isFull wsX2_isFull) := goodIn_app (goodIn_of _ (by decide +kernel)) ggX4_logon_X2_isFull
set_option maxRecDepth 20000 in
theorem ggX4_logon_X4_emptyWires : GoodIn wsX4_logon wsX4_emptyWires := goodIn_r _ [26, 15, 16, 64, 65, 66, 56, 57, 58, 59, 60, 61, 62, 63, 73, 74] (by decide +kernel) (by decide +kernel)
set_option maxRecDepth 20000 in
theorem gX4_logon_X4_emptyWires : GoodIn wsX4_logon (wsV RX4 47 RX4 yX4_emptyWires wsX4_emptyWires) := goodIn_app (goodIn_of _ (by decide +kernel)) ggX4_logon_X4_emptyWires
set_option maxRecDepth 20000 in
theorem ggX4_logon_X4_sendNew : GoodIn wsX4_logon wsX4_sendNew := goodIn_r _ [30, 11, 12, 13, 7, 14, 15, 16, 17, 18, 19, 20, 21, 22, 31, 32, 33, 34, 35, 36, 37, 38, 39, 40, 41, 42, 43, 44, 45, 46, 47, 48, 49, 50, 51, 52, 53, 54, 55, 56, 57, 58, 59, 60, 61, 62, 63, 67, 68, 69, 70, 71, 72, 64, 65, 66, 73, 74] (by decide +kernel) (by decide +kernel)
set_option maxRecDepth 20000 in
theorem gX4_logon_X4_sendNew : GoodIn wsX4_logon (wsV RX4 53 RX4 yX4_sendNew wsX4_sendNew) := goodIn_app (goodIn_of _ (by decide +kernel)) ggX4_logon_X4_sendNew
theorem dX4_logon_0 : decode cX4_logon 0 = .ok (.aload_n 0, 1) := by decide +kernel
theorem dX4_logon_1 : decode cX4_logon 1 = .ok (.iload_n 1, 1) := by decide +kernel
theorem dX4_logon_2 : decode cX4_logon 2 = .ok (.invokevirtual 23, 3) := by decide +kernel
theorem dX4_logon_5 : decode cX4_logon 5 = .ok (.aload_n 0, 1) := by decide +kernel
theorem dX4_logon_6 : decode cX4_logon 6 = .ok (.iload_n 1, 1) := by decide +kernel
theorem dX4_logon_7 : decode cX4_logon 7 = .ok (.invokevirtual 27, 3) := by decide +kernel
theorem dX4_logon_10 : decode cX4_logon 10 = .ok (.astore_n 2, 1) := by decide +kernel
theorem dX4_logon_11 : decode cX4_logon 11 = .ok (.aload_n 2, 1) := by decide +kernel
theorem dX4_logon_12 : decode cX4_logon 12 = .ok (.getfield 31, 3) := by decide +kernel
theorem dX4_logon_15 : decode cX4_logon 15 = .ok (.ifCond .ne 13, 3) := by decide +kernel
theorem dX4_logon_18 : decode cX4_logon 18 = .ok (.aload_n 2, 1) := by decide +kernel
theorem dX4_logon_19 : decode cX4_logon 19 = .ok (.getfield 34, 3) := by decide +kernel
theorem dX4_logon_22 : decode cX4_logon 22 = .ok (.invokevirtual 38, 3) := by decide +kernel
theorem dX4_logon_25 : decode cX4_logon 25 = .ok (.ifCond .eq 11, 3) := by decide +kernel
theorem dX4_logon_28 : decode cX4_logon 28 = .ok (.new 44, 3) := by decide +kernel
theorem dX4_logon_31 : decode cX4_logon 31 = .ok (.dup, 1) := by decide +kernel
theorem dX4_logon_32 : decode cX4_logon 32 = .ok (.invokespecial 46, 3) := by decide +kernel
theorem dX4_logon_35 : decode cX4_logon 35 = .ok (.athrow, 1) := by decide +kernel
theorem dX4_logon_36 : decode cX4_logon 36 = .ok (.aload_n 0, 1) := by decide +kernel
theorem dX4_logon_37 : decode cX4_logon 37 = .ok (.invokevirtual 47, 3) := by decide +kernel
theorem dX4_logon_40 : decode cX4_logon 40 = .ok (.aload_n 2, 1) := by decide +kernel
theorem dX4_logon_41 : decode cX4_logon 41 = .ok (.iconst 1, 1) := by decide +kernel
theorem dX4_logon_42 : decode cX4_logon 42 = .ok (.putfield 31, 3) := by decide +kernel
theorem dX4_logon_45 : decode cX4_logon 45 = .ok (.aload_n 0, 1) := by decide +kernel
theorem dX4_logon_46 : decode cX4_logon 46 = .ok (.iload_n 1, 1) := by decide +kernel
theorem dX4_logon_47 : decode cX4_logon 47 = .ok (.iconst 0, 1) := by decide +kernel
theorem dX4_logon_48 : decode cX4_logon 48 = .ok (.iconst 0, 1) := by decide +kernel
theorem dX4_logon_49 : decode cX4_logon 49 = .ok (.ldc 52, 2) := by decide +kernel
theorem dX4_logon_51 : decode cX4_logon 51 = .ok (.invokevirtual 53, 3) := by decide +kernel
theorem dX4_logon_54 : decode cX4_logon 54 = .ok (.ireturn, 1) := by decide +kernel
set_option maxRecDepth 20000 in
theorem ggX4_logout_X4_checkSide : GoodIn wsX4_logout wsX4_checkSide := goodIn_ca (goodIn_r _ [5, 6, 7] (by decide +kernel) (by decide +kernel)) (goodIn_sub (fun _ h => List.mem_cons_of_mem _ (List.mem_append_left _ (List.mem_append_right _ h))) (by decide +kernel))
set_option maxRecDepth 20000 in
theorem gX4_logout_X4_checkSide : GoodIn wsX4_logout (wsV RX4 23 RX4 yX4_checkSide wsX4_checkSide) := goodIn_app (goodIn_of _ (by decide +kernel)) ggX4_logout_X4_checkSide
set_option maxRecDepth 20000 in
theorem ggX4_logout_X4_checkCanSend : GoodIn wsX4_logout wsX4_checkCanSend := goodIn_ca (goodIn_r _ [11, 12, 13, 14, 15, 16, 4, 17, 18, 19, 20, 21, 22, 23, 24, 25, 62, 63, 64, 65, 66, 67, 68, 69, 70, 71, 72, 73, 74, 75, 76, 77, 78] (by decide +kernel) (by decide +kernel)) (goodIn_sub (fun _ h => List.mem_cons_of_mem _ (List.mem_append_right _ h)) (by decide +kernel))
set_option maxRecDepth 20000 in
theorem gX4_logout_X4_checkCanSend : GoodIn wsX4_logout (wsV RX4 57 RX4 yX4_checkCanSend wsX4_checkCanSend) := goodIn_app (goodIn_of _ (by decide +kernel)) ggX4_logout_X4_checkCanSend
set_option maxRecDepth 20000 in
theorem ggX4_logout_X4_sendNew : GoodIn wsX4_logout wsX4_sendNew := goodIn_r _ [29, 14, 15, 16, 4, 17, 18, 19, 20, 21, 22, 23, 24, 25, 30, 31, 32, 33, 34, 35, 36, 37, 38, 39, 40, 41, 42, 43, 44, 45, 46, 47, 48, 49, 50, 51, 52, 53, 54, 62, 63, 64, 65, 66, 67, 68, 69, 73, 74, 75, 76, 77, 78, 70, 71, 72, 79, 80] (by decide +kernel) (by decide +kernel)
set_option maxRecDepth 20000 in
theorem gX4_logout_X4_sendNew : GoodIn wsX4_logout (wsV RX4 53 RX4 yX4_sendNew wsX4_sendNew) := goodIn_app (goodIn_of _ (by decide +kernel)) ggX4_logout_X4_sendNew
set_option maxRecDepth 20000 in
theorem ggX4_logout_X4_sideOf : GoodIn wsX4_logout wsX4_sideOf := goodIn_r _ [17, 18, 19, 70, 71, 72] (by decide +kernel) (by decide +kernel)
set_option maxRecDepth 20000 in
theorem gX4_logout_X4_sideOf : GoodIn wsX4_logout (wsV RX4 27 RX4 yX4_sideOf wsX4_sideOf) := goodIn_app (goodIn_of _ (by decide +kernel)) ggX4_logout_X4_sideOf
set_option maxRecDepth 20000 in
theorem ggX4_logout_X1_turnOff : GoodIn wsX4_logout wsX1_turnOff := goodIn_r _ [59, 60, 61, 62, 63, 64, 65, 66, 67, 68, 69] (by decide +kernel) (by decide +kernel)
set_option maxRecDepth 20000 in
theorem gX4_logout_X1_turnOff : GoodIn wsX4_logout (wsV RX4 60 RX1 yX1_turnOff wsX1_turnOff) := goodIn_app (goodIn_of _ (by decide +kernel)) ggX4_logout_X1_turnOff
theorem dX4_logout_0 : decode cX4_logout 0 = .ok (.aload_n 0, 1) := by decide +kernel
theorem dX4_logout_1 : decode cX4_logout 1 = .ok (.iload_n 1, 1) := by decide +kernel
theorem dX4_logout_2 : decode cX4_logout 2 = .ok (.invokevirtual 23, 3) := by decide +kernel
theorem dX4_logout_5 : decode cX4_logout 5 = .ok (.aload_n 0, 1) := by decide +kernel
theorem dX4_logout_6 : decode cX4_logout 6 = .ok (.iload_n 1, 1) := by decide +kernel
theorem dX4_logout_7 : decode cX4_logout 7 = .ok (.invokevirtual 57, 3) := by decide +kernel
theorem dX4_logout_10 : decode cX4_logout 10 = .ok (.aload_n 0, 1) := by decide +kernel
theorem dX4_logout_11 : decode cX4_logout 11 = .ok (.iload_n 1, 1) := by decide +kernel
theorem dX4_logout_12 : decode cX4_logout 12 = .ok (.bipush 6, 2) := by decide +kernel
theorem dX4_logout_14 : decode cX4_logout 14 = .ok (.iconst 0, 1) := by decide +kernel
theorem dX4_logout_15 : decode cX4_logout 15 = .ok (.iconst 0, 1) := by decide +kernel
theorem dX4_logout_16 : decode cX4_logout 16 = .ok (.invokevirtual 53, 3) := by decide +kernel
theorem dX4_logout_19 : decode cX4_logout 19 = .ok (.istore_n 2, 1) := by decide +kernel
theorem dX4_logout_20 : decode cX4_logout 20 = .ok (.aload_n 0, 1) := by decide +kernel
theorem dX4_logout_21 : decode cX4_logout 21 = .ok (.iload_n 1, 1) := by decide +kernel
theorem dX4_logout_22 : decode cX4_logout 22 = .ok (.invokevirtual 27, 3) := by decide +kernel
theorem dX4_logout_25 : decode cX4_logout 25 = .ok (.invokevirtual 60, 3) := by decide +kernel
theorem dX4_logout_28 : decode cX4_logout 28 = .ok (.iload_n 2, 1) := by decide +kernel
theorem dX4_logout_29 : decode cX4_logout 29 = .ok (.ireturn, 1) := by decide +kernel
set_option maxRecDepth 20000 in
theorem ggX4_crash_X4_checkSide : GoodIn wsX4_crash wsX4_checkSide := goodIn_ca (goodIn_r _ [5, 6, 7] (by decide +kernel) (by decide +kernel)) (goodIn_sub (fun _ h => List.mem_cons_of_mem _ (List.mem_append_right _ h)) (by decide +kernel))
set_option maxRecDepth 20000 in
theorem gX4_crash_X4_checkSide : GoodIn wsX4_crash (wsV RX4 23 RX4 yX4_checkSide wsX4_checkSide) := goodIn_app (goodIn_of _ (by decide +kernel)) ggX4_crash_X4_checkSide
set_option maxRecDepth 20000 in
theorem ggX4_crash_X4_sideOf : GoodIn wsX4_crash wsX4_sideOf := goodIn_r _ [11, 12, 13, 29, 30, 31] (by decide +kernel) (by decide +kernel)
set_option maxRecDepth 20000 in
theorem gX4_crash_X4_sideOf : GoodIn wsX4_crash (wsV RX4 27 RX4 yX4_sideOf wsX4_sideOf) := goodIn_app (goodIn_of _ (by decide +kernel)) ggX4_crash_X4_sideOf
set_option maxRecDepth 20000 in
theorem ggX4_crash_X1_turnOff : GoodIn wsX4_crash wsX1_turnOff := goodIn_r _ [18, 19, 20, 21, 22, 23, 24, 25, 26, 27, 28] (by decide +kernel) (by decide +kernel)
set_option maxRecDepth 20000 in
theorem gX4_crash_X1_turnOff : GoodIn wsX4_crash (wsV RX4 60 RX1 yX1_turnOff wsX1_turnOff) := goodIn_app (goodIn_of _ (by decide +kernel)) ggX4_crash_X1_turnOff
theorem dX4_crash_0 : decode cX4_crash 0 = .ok (.aload_n 0, 1) := by decide +kernel
theorem dX4_crash_1 : decode cX4_crash 1 = .ok (.iload_n 1, 1) := by decide +kernel
theorem dX4_crash_2 : decode cX4_crash 2 = .ok (.invokevirtual 23, 3) := by decide +kernel
theorem dX4_crash_5 : decode cX4_crash 5 = .ok (.aload_n 0, 1) := by decide +kernel
theorem dX4_crash_6 : decode cX4_crash 6 = .ok (.iload_n 1, 1) := by decide +kernel
theorem dX4_crash_7 : decode cX4_crash 7 = .ok (.invokevirtual 27, 3) := by decide +kernel
theorem dX4_crash_10 : decode cX4_crash 10 = .ok (.getfield 31, 3) := by decide +kernel
theorem dX4_crash_13 : decode cX4_crash 13 = .ok (.iconst 2, 1) := by decide +kernel
theorem dX4_crash_14 : decode cX4_crash 14 = .ok (.if_icmp .ne 7, 3) := by decide +kernel
theorem dX4_crash_17 : decode cX4_crash 17 = .ok (.iconst 1, 1) := by decide +kernel
theorem dX4_crash_18 : decode cX4_crash 18 = .ok (.goto 4, 3) := by decide +kernel
theorem dX4_crash_21 : decode cX4_crash 21 = .ok (.iconst 0, 1) := by decide +kernel
theorem dX4_crash_22 : decode cX4_crash 22 = .ok (.istore_n 2, 1) := by decide +kernel
theorem dX4_crash_23 : decode cX4_crash 23 = .ok (.aload_n 0, 1) := by decide +kernel
theorem dX4_crash_24 : decode cX4_crash 24 = .ok (.iload_n 1, 1) := by decide +kernel
theorem dX4_crash_25 : decode cX4_crash 25 = .ok (.invokevirtual 27, 3) := by decide +kernel
theorem dX4_crash_28 : decode cX4_crash 28 = .ok (.invokevirtual 60, 3) := by decide +kernel
theorem dX4_crash_31 : decode cX4_crash 31 = .ok (.iload_n 2, 1) := by decide +kernel
theorem dX4_crash_32 : decode cX4_crash 32 = .ok (.ireturn, 1) := by decide +kernel
set_option maxRecDepth 20000 in
theorem ggX4_endDay_X2_emptyAll : GoodIn wsX4_endDay wsX2_emptyAll := goodIn_r _ [9, 10, 11, 12, 13, 30, 31, 32, 33, 34, 35] (by decide +kernel) (by decide +kernel)
set_option maxRecDepth 20000 in
theorem gX4_endDay_X2_emptyAll : GoodIn wsX4_endDay (wsV RX4 66 RX2 yX2_emptyAll wsX2_emptyAll) := goodIn_app (goodIn_of _ (by decide +kernel)) ggX4_endDay_X2_emptyAll
set_option maxRecDepth 20000 in
theorem ggX4_endDay_X4_emptyWires : GoodIn wsX4_endDay wsX4_emptyWires := goodIn_r _ [18, 3, 4, 19, 20, 21, 22, 23, 24, 25, 26, 27, 28, 29, 36, 37] (by decide +kernel) (by decide +kernel)
set_option maxRecDepth 20000 in
theorem gX4_endDay_X4_emptyWires : GoodIn wsX4_endDay (wsV RX4 47 RX4 yX4_emptyWires wsX4_emptyWires) := goodIn_app (goodIn_of _ (by decide +kernel)) ggX4_endDay_X4_emptyWires
theorem dX4_endDay_0 : decode cX4_endDay 0 = .ok (.aload_n 0, 1) := by decide +kernel
theorem dX4_endDay_1 : decode cX4_endDay 1 = .ok (.getfield 10, 3) := by decide +kernel
theorem dX4_endDay_4 : decode cX4_endDay 4 = .ok (.getfield 31, 3) := by decide +kernel
theorem dX4_endDay_7 : decode cX4_endDay 7 = .ok (.ifCond .ne 13, 3) := by decide +kernel
theorem dX4_endDay_10 : decode cX4_endDay 10 = .ok (.aload_n 0, 1) := by decide +kernel
theorem dX4_endDay_11 : decode cX4_endDay 11 = .ok (.getfield 16, 3) := by decide +kernel
theorem dX4_endDay_14 : decode cX4_endDay 14 = .ok (.getfield 31, 3) := by decide +kernel
theorem dX4_endDay_17 : decode cX4_endDay 17 = .ok (.ifCond .eq 11, 3) := by decide +kernel
theorem dX4_endDay_20 : decode cX4_endDay 20 = .ok (.new 44, 3) := by decide +kernel
theorem dX4_endDay_23 : decode cX4_endDay 23 = .ok (.dup, 1) := by decide +kernel
theorem dX4_endDay_24 : decode cX4_endDay 24 = .ok (.invokespecial 46, 3) := by decide +kernel
theorem dX4_endDay_27 : decode cX4_endDay 27 = .ok (.athrow, 1) := by decide +kernel
theorem dX4_endDay_28 : decode cX4_endDay 28 = .ok (.aload_n 0, 1) := by decide +kernel
theorem dX4_endDay_29 : decode cX4_endDay 29 = .ok (.getfield 10, 3) := by decide +kernel
theorem dX4_endDay_32 : decode cX4_endDay 32 = .ok (.getfield 34, 3) := by decide +kernel
theorem dX4_endDay_35 : decode cX4_endDay 35 = .ok (.getfield 63, 3) := by decide +kernel
theorem dX4_endDay_38 : decode cX4_endDay 38 = .ok (.aload_n 0, 1) := by decide +kernel
theorem dX4_endDay_39 : decode cX4_endDay 39 = .ok (.getfield 16, 3) := by decide +kernel
theorem dX4_endDay_42 : decode cX4_endDay 42 = .ok (.getfield 34, 3) := by decide +kernel
theorem dX4_endDay_45 : decode cX4_endDay 45 = .ok (.getfield 63, 3) := by decide +kernel
theorem dX4_endDay_48 : decode cX4_endDay 48 = .ok (.iadd, 1) := by decide +kernel
theorem dX4_endDay_49 : decode cX4_endDay 49 = .ok (.istore_n 1, 1) := by decide +kernel
theorem dX4_endDay_50 : decode cX4_endDay 50 = .ok (.aload_n 0, 1) := by decide +kernel
theorem dX4_endDay_51 : decode cX4_endDay 51 = .ok (.getfield 10, 3) := by decide +kernel
theorem dX4_endDay_54 : decode cX4_endDay 54 = .ok (.getfield 34, 3) := by decide +kernel
theorem dX4_endDay_57 : decode cX4_endDay 57 = .ok (.invokevirtual 66, 3) := by decide +kernel
theorem dX4_endDay_60 : decode cX4_endDay 60 = .ok (.aload_n 0, 1) := by decide +kernel
theorem dX4_endDay_61 : decode cX4_endDay 61 = .ok (.getfield 16, 3) := by decide +kernel
theorem dX4_endDay_64 : decode cX4_endDay 64 = .ok (.getfield 34, 3) := by decide +kernel
theorem dX4_endDay_67 : decode cX4_endDay 67 = .ok (.invokevirtual 66, 3) := by decide +kernel
theorem dX4_endDay_70 : decode cX4_endDay 70 = .ok (.aload_n 0, 1) := by decide +kernel
theorem dX4_endDay_71 : decode cX4_endDay 71 = .ok (.invokevirtual 47, 3) := by decide +kernel
theorem dX4_endDay_74 : decode cX4_endDay 74 = .ok (.iload_n 1, 1) := by decide +kernel
theorem dX4_endDay_75 : decode cX4_endDay 75 = .ok (.ireturn, 1) := by decide +kernel
set_option maxRecDepth 20000 in
theorem ggX4_send_X4_checkSide : GoodIn wsX4_send wsX4_checkSide := goodIn_ca (goodIn_r _ [7, 8, 9] (by decide +kernel) (by decide +kernel)) (goodIn_sub (fun _ h => List.mem_cons_of_mem _ (List.mem_append_left _ (List.mem_append_right _ h))) (by decide +kernel))
set_option maxRecDepth 20000 in
theorem gX4_send_X4_checkSide : GoodIn wsX4_send (wsV RX4 23 RX4 yX4_checkSide wsX4_checkSide) := goodIn_app (goodIn_of _ (by decide +kernel)) ggX4_send_X4_checkSide
set_option maxRecDepth 20000 in
theorem ggX4_send_X4_checkCanSend : GoodIn wsX4_send wsX4_checkCanSend := goodIn_ca (goodIn_r _ [13, 14, 15, 16, 17, 18, 6, 19, 20, 21, 22, 23, 24, 25, 26, 27, 57, 58, 59, 60, 61, 62, 63, 64, 65, 66, 67, 68, 69, 70, 71, 72, 73] (by decide +kernel) (by decide +kernel)) (goodIn_sub (fun _ h => List.mem_cons_of_mem _ (List.mem_append_right _ h)) (by decide +kernel))
set_option maxRecDepth 20000 in
theorem gX4_send_X4_checkCanSend : GoodIn wsX4_send (wsV RX4 57 RX4 yX4_checkCanSend wsX4_checkCanSend) := goodIn_app (goodIn_of _ (by decide +kernel)) ggX4_send_X4_checkCanSend
set_option maxRecDepth 20000 in
theorem ggX4_send_X4_sendNew : GoodIn wsX4_send wsX4_sendNew := goodIn_r _ [31, 16, 17, 18, 6, 19, 20, 21, 22, 23, 24, 25, 26, 27, 32, 33, 34, 35, 36, 37, 38, 39, 40, 41, 42, 43, 44, 45, 46, 47, 48, 49, 50, 51, 52, 53, 54, 55, 56, 57, 58, 59, 60, 61, 62, 63, 64, 68, 69, 70, 71, 72, 73, 65, 66, 67, 74, 75] (by decide +kernel) (by decide +kernel)
set_option maxRecDepth 20000 in
theorem gX4_send_X4_sendNew : GoodIn wsX4_send (wsV RX4 53 RX4 yX4_sendNew wsX4_sendNew) := goodIn_app (goodIn_of _ (by decide +kernel)) ggX4_send_X4_sendNew
theorem dX4_send_0 : decode cX4_send 0 = .ok (.aload_n 0, 1) := by decide +kernel
theorem dX4_send_1 : decode cX4_send 1 = .ok (.iload_n 1, 1) := by decide +kernel
theorem dX4_send_2 : decode cX4_send 2 = .ok (.invokevirtual 23, 3) := by decide +kernel
theorem dX4_send_5 : decode cX4_send 5 = .ok (.iload_n 2, 1) := by decide +kernel
theorem dX4_send_6 : decode cX4_send 6 = .ok (.ifCond .lt 10, 3) := by decide +kernel
theorem dX4_send_9 : decode cX4_send 9 = .ok (.iload_n 2, 1) := by decide +kernel
theorem dX4_send_10 : decode cX4_send 10 = .ok (.sipush 999, 3) := by decide +kernel
theorem dX4_send_13 : decode cX4_send 13 = .ok (.if_icmp .le 11, 3) := by decide +kernel
theorem dX4_send_16 : decode cX4_send 16 = .ok (.new 69, 3) := by decide +kernel
theorem dX4_send_19 : decode cX4_send 19 = .ok (.dup, 1) := by decide +kernel
theorem dX4_send_20 : decode cX4_send 20 = .ok (.invokespecial 71, 3) := by decide +kernel
theorem dX4_send_23 : decode cX4_send 23 = .ok (.athrow, 1) := by decide +kernel
theorem dX4_send_24 : decode cX4_send 24 = .ok (.aload_n 0, 1) := by decide +kernel
theorem dX4_send_25 : decode cX4_send 25 = .ok (.iload_n 1, 1) := by decide +kernel
theorem dX4_send_26 : decode cX4_send 26 = .ok (.invokevirtual 57, 3) := by decide +kernel
theorem dX4_send_29 : decode cX4_send 29 = .ok (.aload_n 0, 1) := by decide +kernel
theorem dX4_send_30 : decode cX4_send 30 = .ok (.iload_n 1, 1) := by decide +kernel
theorem dX4_send_31 : decode cX4_send 31 = .ok (.iconst 5, 1) := by decide +kernel
theorem dX4_send_32 : decode cX4_send 32 = .ok (.iload_n 2, 1) := by decide +kernel
theorem dX4_send_33 : decode cX4_send 33 = .ok (.iconst 0, 1) := by decide +kernel
theorem dX4_send_34 : decode cX4_send 34 = .ok (.invokevirtual 53, 3) := by decide +kernel
theorem dX4_send_37 : decode cX4_send 37 = .ok (.ireturn, 1) := by decide +kernel
set_option maxRecDepth 20000 in
theorem ggX4_again_X4_checkSide : GoodIn wsX4_again wsX4_checkSide := goodIn_ca (goodIn_r _ [8, 1, 2] (by decide +kernel) (by decide +kernel)) (goodIn_sub (fun _ h => List.mem_cons_of_mem _ (List.mem_append_left _ (List.mem_append_right _ h))) (by decide +kernel))
set_option maxRecDepth 20000 in
theorem gX4_again_X4_checkSide : GoodIn wsX4_again (wsV RX4 23 RX4 yX4_checkSide wsX4_checkSide) := goodIn_app (goodIn_of _ (by decide +kernel)) ggX4_again_X4_checkSide
set_option maxRecDepth 20000 in
theorem ggX4_again_X4_sideOf : GoodIn wsX4_again wsX4_sideOf := goodIn_r _ [12, 13, 14, 79, 80, 81] (by decide +kernel) (by decide +kernel)
set_option maxRecDepth 20000 in
theorem gX4_again_X4_sideOf : GoodIn wsX4_again (wsV RX4 27 RX4 yX4_sideOf wsX4_sideOf) := goodIn_app (goodIn_of _ (by decide +kernel)) ggX4_again_X4_sideOf
set_option maxRecDepth 20000 in
theorem ggX4_again_X2_hasBusiness : GoodIn wsX4_again wsX2_hasBusiness := goodIn_r _ [19, 20, 21, 22, 23, 18, 24, 25, 26, 27, 28, 29, 82, 83, 84, 85, 86, 87] (by decide +kernel) (by decide +kernel)
set_option maxRecDepth 20000 in
theorem gX4_again_X2_hasBusiness : GoodIn wsX4_again (wsV RX4 72 RX2 yX2_hasBusiness wsX2_hasBusiness) := goodIn_app (goodIn_of _ (by decide +kernel)) ggX4_again_X2_hasBusiness
set_option maxRecDepth 20000 in
theorem ggX4_again_X4_checkCanSend : GoodIn wsX4_again wsX4_checkCanSend := goodIn_ca (goodIn_r _ [33, 34, 35, 9, 10, 11, 7, 12, 13, 14, 36, 37, 38, 18, 39, 20, 71, 72, 73, 74, 75, 76, 77, 78, 79, 80, 81, 82, 83, 84, 85, 86, 87] (by decide +kernel) (by decide +kernel)) (goodIn_sub (fun _ h => List.mem_cons_of_mem _ (List.mem_append_right _ h)) (by decide +kernel))
set_option maxRecDepth 20000 in
theorem gX4_again_X4_checkCanSend : GoodIn wsX4_again (wsV RX4 57 RX4 yX4_checkCanSend wsX4_checkCanSend) := goodIn_app (goodIn_of _ (by decide +kernel)) ggX4_again_X4_checkCanSend
set_option maxRecDepth 20000 in
theorem ggX4_again_X2_sentAt : GoodIn wsX4_again wsX2_sentAt := goodIn_r _ [24, 25, 82, 83, 84, 85, 86, 87] (by decide +kernel) (by decide +kernel)
set_option maxRecDepth 20000 in
theorem gX4_again_X2_sentAt : GoodIn wsX4_again (wsV RX4 79 RX2 yX2_sentAt wsX2_sentAt) := goodIn_app (goodIn_of _ (by decide +kernel)) ggX4_again_X2_sentAt
set_option maxRecDepth 20000 in
theorem ggX4_again_X0_toldBy : GoodIn wsX4_again wsX0_toldBy := goodIn_r _ [43] (by decide +kernel) (by decide +kernel)
set_option maxRecDepth 20000 in
theorem gX4_again_X0_toldBy : GoodIn wsX4_again (va_wsS RX4 83 yX0_toldBy wsX0_toldBy) := goodIn_app (goodIn_of _ (by decide +kernel)) ggX4_again_X0_toldBy
set_option maxRecDepth 20000 in
theorem ggX4_again_X4_sendNew : GoodIn wsX4_again wsX4_sendNew := goodIn_r _ [47, 9, 10, 11, 7, 12, 13, 14, 36, 37, 38, 18, 39, 20, 48, 49, 28, 50, 51, 52, 53, 54, 25, 55, 56, 57, 58, 59, 60, 61, 62, 63, 64, 65, 66, 67, 68, 69, 70, 71, 72, 73, 74, 75, 76, 77, 78, 82, 83, 84, 85, 86, 87, 79, 80, 81, 88, 89] (by decide +kernel) (by decide +kernel)
set_option maxRecDepth 20000 in
theorem gX4_again_X4_sendNew : GoodIn wsX4_again (wsV RX4 53 RX4 yX4_sendNew wsX4_sendNew) := goodIn_app (goodIn_of _ (by decide +kernel)) ggX4_again_X4_sendNew
theorem dX4_again_0 : decode cX4_again 0 = .ok (.aload_n 0, 1) := by decide +kernel
theorem dX4_again_1 : decode cX4_again 1 = .ok (.iload_n 1, 1) := by decide +kernel
theorem dX4_again_2 : decode cX4_again 2 = .ok (.invokevirtual 23, 3) := by decide +kernel
theorem dX4_again_5 : decode cX4_again 5 = .ok (.aload_n 0, 1) := by decide +kernel
theorem dX4_again_6 : decode cX4_again 6 = .ok (.iload_n 1, 1) := by decide +kernel
theorem dX4_again_7 : decode cX4_again 7 = .ok (.invokevirtual 27, 3) := by decide +kernel
theorem dX4_again_10 : decode cX4_again 10 = .ok (.getfield 34, 3) := by decide +kernel
theorem dX4_again_13 : decode cX4_again 13 = .ok (.astore_n 3, 1) := by decide +kernel
theorem dX4_again_14 : decode cX4_again 14 = .ok (.aload_n 3, 1) := by decide +kernel
theorem dX4_again_15 : decode cX4_again 15 = .ok (.iload_n 2, 1) := by decide +kernel
theorem dX4_again_16 : decode cX4_again 16 = .ok (.invokevirtual 72, 3) := by decide +kernel
theorem dX4_again_19 : decode cX4_again 19 = .ok (.ifCond .ne 11, 3) := by decide +kernel
theorem dX4_again_22 : decode cX4_again 22 = .ok (.new 76, 3) := by decide +kernel
theorem dX4_again_25 : decode cX4_again 25 = .ok (.dup, 1) := by decide +kernel
theorem dX4_again_26 : decode cX4_again 26 = .ok (.invokespecial 78, 3) := by decide +kernel
theorem dX4_again_29 : decode cX4_again 29 = .ok (.athrow, 1) := by decide +kernel
theorem dX4_again_30 : decode cX4_again 30 = .ok (.aload_n 0, 1) := by decide +kernel
theorem dX4_again_31 : decode cX4_again 31 = .ok (.iload_n 1, 1) := by decide +kernel
theorem dX4_again_32 : decode cX4_again 32 = .ok (.invokevirtual 57, 3) := by decide +kernel
theorem dX4_again_35 : decode cX4_again 35 = .ok (.aload_n 3, 1) := by decide +kernel
theorem dX4_again_36 : decode cX4_again 36 = .ok (.iload_n 2, 1) := by decide +kernel
theorem dX4_again_37 : decode cX4_again 37 = .ok (.invokevirtual 79, 3) := by decide +kernel
theorem dX4_again_40 : decode cX4_again 40 = .ok (.invokestatic 83, 3) := by decide +kernel
theorem dX4_again_43 : decode cX4_again 43 = .ok (.istore 4, 2) := by decide +kernel
theorem dX4_again_45 : decode cX4_again 45 = .ok (.aload_n 0, 1) := by decide +kernel
theorem dX4_again_46 : decode cX4_again 46 = .ok (.iload_n 1, 1) := by decide +kernel
theorem dX4_again_47 : decode cX4_again 47 = .ok (.iconst 5, 1) := by decide +kernel
theorem dX4_again_48 : decode cX4_again 48 = .ok (.iload 4, 2) := by decide +kernel
theorem dX4_again_50 : decode cX4_again 50 = .ok (.ldc 86, 2) := by decide +kernel
theorem dX4_again_52 : decode cX4_again 52 = .ok (.invokevirtual 53, 3) := by decide +kernel
theorem dX4_again_55 : decode cX4_again 55 = .ok (.ireturn, 1) := by decide +kernel
set_option maxRecDepth 20000 in
theorem ggX4_deliver_X4_takeFirst : GoodIn wsX4_deliver wsX4_takeFirst := goodIn_ca (goodIn_ca (goodIn_r _ [6, 7, 8, 9, 10, 11, 5, 12, 13, 14, 15, 16, 17, 18, 19, 20, 21, 22, 23, 24, 25, 26, 27, 28, 29, 30, 31, 154, 155, 156, 157, 158, 159, 160, 161, 162, 163, 151, 152, 153] (by decide +kernel) (by decide +kernel)) (goodIn_sub (fun _ h => List.mem_cons_of_mem _ (List.mem_append_left _ (List.mem_append_right _ h))) (by decide +kernel))) (goodIn_sub (fun _ h => List.mem_cons_of_mem _ (List.mem_append_right _ h)) (by decide +kernel))
set_option maxRecDepth 20000 in
theorem gX4_deliver_X4_takeFirst : GoodIn wsX4_deliver (wsV RX4 87 RX4 yX4_takeFirst wsX4_takeFirst) := goodIn_app (goodIn_of _ (by decide +kernel)) ggX4_deliver_X4_takeFirst
set_option maxRecDepth 20000 in
theorem ggX4_deliver_X4_sideOf : GoodIn wsX4_deliver wsX4_sideOf := goodIn_r _ [18, 19, 20, 151, 152, 153] (by decide +kernel) (by decide +kernel)
set_option maxRecDepth 20000 in
theorem gX4_deliver_X4_sideOf : GoodIn wsX4_deliver (wsV RX4 27 RX4 yX4_sideOf wsX4_sideOf) := goodIn_app (goodIn_of _ (by decide +kernel)) ggX4_deliver_X4_sideOf
set_option maxRecDepth 20000 in
theorem ggX4_deliver_X1_hear : GoodIn wsX4_deliver wsX1_hear := goodIn_r _ [36, 37, 38, 154, 155, 156, 157, 158, 159, 160, 161] (by decide +kernel) (by decide +kernel)
set_option maxRecDepth 20000 in
theorem gX4_deliver_X1_hear : GoodIn wsX4_deliver (wsV RX4 90 RX1 yX1_hear wsX1_hear) := goodIn_app (goodIn_of _ (by decide +kernel)) ggX4_deliver_X1_hear
set_option maxRecDepth 20000 in
theorem ggX4_deliver_X4_receive : GoodIn wsX4_deliver wsX4_receive := goodIn_r _ [42, 15, 16, 17, 5, 18, 19, 20, 43, 44, 45, 46, 47, 48, 49, 50, 51, 52, 53, 54, 55, 56, 57, 58, 59, 60, 35, 61, 62, 63, 64, 65, 66, 67, 68, 69, 70, 71, 72, 73, 74, 75, 76, 77, 78, 79, 80, 81, 82, 83, 84, 85, 86, 87, 88, 89, 90, 91, 92, 93, 1, 94, 95, 96, 97, 98, 99, 100, 24, 101, 26, 27, 102, 103, 104, 105, 106, 107, 108, 109, 110, 111, 112, 113, 114, 115, 116, 117, 118, 119, 120, 121, 122, 123, 124, 125, 126, 127, 128, 129, 130, 131, 132, 133, 134, 135, 136, 137, 138, 139, 140, 141, 142, 143, 144, 145, 146, 147, 148, 149, 150, 154, 155, 156, 157, 158, 159, 160, 161, 164, 165, 166, 167, 168, 169, 151, 152, 153, 162, 163] (by decide +kernel) (by decide +kernel)
set_option maxRecDepth 20000 in
theorem gX4_deliver_X4_receive : GoodIn wsX4_deliver (wsV RX4 93 RX4 yX4_receive wsX4_receive) := goodIn_app (goodIn_of _ (by decide +kernel)) ggX4_deliver_X4_receive
set_option maxRecDepth 20000 in
theorem ggX4_deliver_X0_kindOf : GoodIn wsX4_deliver wsX0_kindOf := goodIn_r _ [46] (by decide +kernel) (by decide +kernel)
set_option maxRecDepth 20000 in
theorem gX4_deliver_X0_kindOf : GoodIn wsX4_deliver (va_wsS RX4 97 yX0_kindOf wsX0_kindOf) := goodIn_app (goodIn_of _ (by decide +kernel)) ggX4_deliver_X0_kindOf
theorem dX4_deliver_0 : decode cX4_deliver 0 = .ok (.aload_n 0, 1) := by decide +kernel
theorem dX4_deliver_1 : decode cX4_deliver 1 = .ok (.iload_n 1, 1) := by decide +kernel
theorem dX4_deliver_2 : decode cX4_deliver 2 = .ok (.invokevirtual 87, 3) := by decide +kernel
theorem dX4_deliver_5 : decode cX4_deliver 5 = .ok (.istore_n 2, 1) := by decide +kernel
theorem dX4_deliver_6 : decode cX4_deliver 6 = .ok (.aload_n 0, 1) := by decide +kernel
theorem dX4_deliver_7 : decode cX4_deliver 7 = .ok (.iload_n 1, 1) := by decide +kernel
theorem dX4_deliver_8 : decode cX4_deliver 8 = .ok (.invokevirtual 27, 3) := by decide +kernel
theorem dX4_deliver_11 : decode cX4_deliver 11 = .ok (.aload_n 0, 1) := by decide +kernel
theorem dX4_deliver_12 : decode cX4_deliver 12 = .ok (.getfield 19, 3) := by decide +kernel
theorem dX4_deliver_15 : decode cX4_deliver 15 = .ok (.invokevirtual 90, 3) := by decide +kernel
theorem dX4_deliver_18 : decode cX4_deliver 18 = .ok (.aload_n 0, 1) := by decide +kernel
theorem dX4_deliver_19 : decode cX4_deliver 19 = .ok (.iload_n 1, 1) := by decide +kernel
theorem dX4_deliver_20 : decode cX4_deliver 20 = .ok (.iload_n 2, 1) := by decide +kernel
theorem dX4_deliver_21 : decode cX4_deliver 21 = .ok (.invokevirtual 93, 3) := by decide +kernel
theorem dX4_deliver_24 : decode cX4_deliver 24 = .ok (.iload_n 2, 1) := by decide +kernel
theorem dX4_deliver_25 : decode cX4_deliver 25 = .ok (.invokestatic 97, 3) := by decide +kernel
theorem dX4_deliver_28 : decode cX4_deliver 28 = .ok (.ireturn, 1) := by decide +kernel
set_option maxRecDepth 20000 in
theorem ggX4_lose_X4_takeFirst : GoodIn wsX4_lose wsX4_takeFirst := goodIn_ca (goodIn_ca (goodIn_r _ [5, 6, 7, 8, 9, 10, 4, 11, 12, 13, 14, 15, 16, 17, 18, 19, 20, 21, 22, 23, 24, 25, 26, 27, 28, 29, 30, 35, 36, 37, 38, 39, 40, 41, 42, 43, 44, 45, 46, 47] (by decide +kernel) (by decide +kernel)) (goodIn_sub (fun _ h => List.mem_cons_of_mem _ (List.mem_append_left _ (List.mem_append_right _ h))) (by decide +kernel))) (goodIn_sub (fun _ h => List.mem_cons_of_mem _ (List.mem_append_right _ h)) (by decide +kernel))
set_option maxRecDepth 20000 in
theorem gX4_lose_X4_takeFirst : GoodIn wsX4_lose (wsV RX4 87 RX4 yX4_takeFirst wsX4_takeFirst) := goodIn_app (goodIn_of _ (by decide +kernel)) ggX4_lose_X4_takeFirst
set_option maxRecDepth 20000 in
theorem ggX4_lose_X0_kindOf : GoodIn wsX4_lose wsX0_kindOf := goodIn_r _ [34] (by decide +kernel) (by decide +kernel)
set_option maxRecDepth 20000 in
theorem gX4_lose_X0_kindOf : GoodIn wsX4_lose (va_wsS RX4 97 yX0_kindOf wsX0_kindOf) := goodIn_app (goodIn_of _ (by decide +kernel)) ggX4_lose_X0_kindOf
theorem dX4_lose_0 : decode cX4_lose 0 = .ok (.aload_n 0, 1) := by decide +kernel
theorem dX4_lose_1 : decode cX4_lose 1 = .ok (.iload_n 1, 1) := by decide +kernel
theorem dX4_lose_2 : decode cX4_lose 2 = .ok (.invokevirtual 87, 3) := by decide +kernel
theorem dX4_lose_5 : decode cX4_lose 5 = .ok (.invokestatic 97, 3) := by decide +kernel
theorem dX4_lose_8 : decode cX4_lose 8 = .ok (.ireturn, 1) := by decide +kernel
set_option maxRecDepth 20000 in
theorem ggX4_tick_X4_passTick : GoodIn wsX4_tick wsX4_passTick := goodIn_r _ [6, 1, 7, 8, 9, 5, 10, 11, 12, 13, 14, 15, 16, 17, 18, 19, 20, 21, 22, 23, 24, 25, 26, 27, 28, 29, 30, 31, 32, 33, 34, 35, 36, 37, 38, 39, 40, 41, 42, 43, 44, 45, 46, 47, 48, 49, 50, 51, 52, 53, 57, 58, 59, 60, 61, 62, 63, 64, 54, 55, 56, 65, 66, 67, 68, 69, 70, 71, 72] (by decide +kernel) (by decide +kernel)
set_option maxRecDepth 20000 in
theorem gX4_tick_X4_passTick : GoodIn wsX4_tick (wsV RX4 100 RX4 yX4_passTick wsX4_passTick) := goodIn_app (goodIn_of _ (by decide +kernel)) ggX4_tick_X4_passTick
theorem dX4_tick_0 : decode cX4_tick 0 = .ok (.aload_n 0, 1) := by decide +kernel
theorem dX4_tick_1 : decode cX4_tick 1 = .ok (.dup, 1) := by decide +kernel
theorem dX4_tick_2 : decode cX4_tick 2 = .ok (.getfield 19, 3) := by decide +kernel
theorem dX4_tick_5 : decode cX4_tick 5 = .ok (.iconst 1, 1) := by decide +kernel
theorem dX4_tick_6 : decode cX4_tick 6 = .ok (.iadd, 1) := by decide +kernel
theorem dX4_tick_7 : decode cX4_tick 7 = .ok (.putfield 19, 3) := by decide +kernel
theorem dX4_tick_10 : decode cX4_tick 10 = .ok (.aload_n 0, 1) := by decide +kernel
theorem dX4_tick_11 : decode cX4_tick 11 = .ok (.iconst 0, 1) := by decide +kernel
theorem dX4_tick_12 : decode cX4_tick 12 = .ok (.invokevirtual 100, 3) := by decide +kernel
theorem dX4_tick_15 : decode cX4_tick 15 = .ok (.aload_n 0, 1) := by decide +kernel
theorem dX4_tick_16 : decode cX4_tick 16 = .ok (.iconst 1, 1) := by decide +kernel
theorem dX4_tick_17 : decode cX4_tick 17 = .ok (.invokevirtual 100, 3) := by decide +kernel
theorem dX4_tick_20 : decode cX4_tick 20 = .ok (.aload_n 0, 1) := by decide +kernel
theorem dX4_tick_21 : decode cX4_tick 21 = .ok (.getfield 19, 3) := by decide +kernel
theorem dX4_tick_24 : decode cX4_tick 24 = .ok (.ireturn, 1) := by decide +kernel
set_option maxRecDepth 20000 in
theorem ggX4_stateOf_X4_checkSide : GoodIn wsX4_stateOf wsX4_checkSide := goodIn_ca (goodIn_r _ [5, 6, 7] (by decide +kernel) (by decide +kernel)) (goodIn_sub (fun _ h => List.mem_cons_of_mem _ (List.mem_append_right _ h)) (by decide +kernel))
set_option maxRecDepth 20000 in
theorem gX4_stateOf_X4_checkSide : GoodIn wsX4_stateOf (wsV RX4 23 RX4 yX4_checkSide wsX4_checkSide) := goodIn_app (goodIn_of _ (by decide +kernel)) ggX4_stateOf_X4_checkSide
set_option maxRecDepth 20000 in
theorem ggX4_stateOf_X4_sideOf : GoodIn wsX4_stateOf wsX4_sideOf := goodIn_r _ [11, 12, 13, 22, 23, 24] (by decide +kernel) (by decide +kernel)
set_option maxRecDepth 20000 in
theorem gX4_stateOf_X4_sideOf : GoodIn wsX4_stateOf (wsV RX4 27 RX4 yX4_sideOf wsX4_sideOf) := goodIn_app (goodIn_of _ (by decide +kernel)) ggX4_stateOf_X4_sideOf
theorem dX4_stateOf_0 : decode cX4_stateOf 0 = .ok (.aload_n 0, 1) := by decide +kernel
theorem dX4_stateOf_1 : decode cX4_stateOf 1 = .ok (.iload_n 1, 1) := by decide +kernel
theorem dX4_stateOf_2 : decode cX4_stateOf 2 = .ok (.invokevirtual 23, 3) := by decide +kernel
theorem dX4_stateOf_5 : decode cX4_stateOf 5 = .ok (.aload_n 0, 1) := by decide +kernel
theorem dX4_stateOf_6 : decode cX4_stateOf 6 = .ok (.iload_n 1, 1) := by decide +kernel
theorem dX4_stateOf_7 : decode cX4_stateOf 7 = .ok (.invokevirtual 27, 3) := by decide +kernel
theorem dX4_stateOf_10 : decode cX4_stateOf 10 = .ok (.getfield 31, 3) := by decide +kernel
theorem dX4_stateOf_13 : decode cX4_stateOf 13 = .ok (.ireturn, 1) := by decide +kernel
set_option maxRecDepth 20000 in
theorem ggX4_next_X4_checkSide : GoodIn wsX4_next wsX4_checkSide := goodIn_ca (goodIn_r _ [5, 6, 7] (by decide +kernel) (by decide +kernel)) (goodIn_sub (fun _ h => List.mem_cons_of_mem _ (List.mem_append_right _ h)) (by decide +kernel))
set_option maxRecDepth 20000 in
theorem gX4_next_X4_checkSide : GoodIn wsX4_next (wsV RX4 23 RX4 yX4_checkSide wsX4_checkSide) := goodIn_app (goodIn_of _ (by decide +kernel)) ggX4_next_X4_checkSide
set_option maxRecDepth 20000 in
theorem ggX4_next_X4_sideOf : GoodIn wsX4_next wsX4_sideOf := goodIn_r _ [11, 12, 13, 28, 29, 30] (by decide +kernel) (by decide +kernel)
set_option maxRecDepth 20000 in
theorem gX4_next_X4_sideOf : GoodIn wsX4_next (wsV RX4 27 RX4 yX4_sideOf wsX4_sideOf) := goodIn_app (goodIn_of _ (by decide +kernel)) ggX4_next_X4_sideOf
theorem dX4_next_0 : decode cX4_next 0 = .ok (.aload_n 0, 1) := by decide +kernel
theorem dX4_next_1 : decode cX4_next 1 = .ok (.iload_n 1, 1) := by decide +kernel
theorem dX4_next_2 : decode cX4_next 2 = .ok (.invokevirtual 23, 3) := by decide +kernel
theorem dX4_next_5 : decode cX4_next 5 = .ok (.aload_n 0, 1) := by decide +kernel
theorem dX4_next_6 : decode cX4_next 6 = .ok (.iload_n 1, 1) := by decide +kernel
theorem dX4_next_7 : decode cX4_next 7 = .ok (.invokevirtual 27, 3) := by decide +kernel
theorem dX4_next_10 : decode cX4_next 10 = .ok (.getfield 34, 3) := by decide +kernel
theorem dX4_next_13 : decode cX4_next 13 = .ok (.getfield 63, 3) := by decide +kernel
theorem dX4_next_16 : decode cX4_next 16 = .ok (.iconst 1, 1) := by decide +kernel
theorem dX4_next_17 : decode cX4_next 17 = .ok (.iadd, 1) := by decide +kernel
theorem dX4_next_18 : decode cX4_next 18 = .ok (.ireturn, 1) := by decide +kernel
set_option maxRecDepth 20000 in
theorem ggX4_expected_X4_checkSide : GoodIn wsX4_expected wsX4_checkSide := goodIn_ca (goodIn_r _ [5, 6, 7] (by decide +kernel) (by decide +kernel)) (goodIn_sub (fun _ h => List.mem_cons_of_mem _ (List.mem_append_right _ h)) (by decide +kernel))
set_option maxRecDepth 20000 in
theorem gX4_expected_X4_checkSide : GoodIn wsX4_expected (wsV RX4 23 RX4 yX4_checkSide wsX4_checkSide) := goodIn_app (goodIn_of _ (by decide +kernel)) ggX4_expected_X4_checkSide
set_option maxRecDepth 20000 in
theorem ggX4_expected_X4_sideOf : GoodIn wsX4_expected wsX4_sideOf := goodIn_r _ [11, 12, 13, 28, 29, 30] (by decide +kernel) (by decide +kernel)
set_option maxRecDepth 20000 in
theorem gX4_expected_X4_sideOf : GoodIn wsX4_expected (wsV RX4 27 RX4 yX4_sideOf wsX4_sideOf) := goodIn_app (goodIn_of _ (by decide +kernel)) ggX4_expected_X4_sideOf
theorem dX4_expected_0 : decode cX4_expected 0 = .ok (.aload_n 0, 1) := by decide +kernel
theorem dX4_expected_1 : decode cX4_expected 1 = .ok (.iload_n 1, 1) := by decide +kernel
theorem dX4_expected_2 : decode cX4_expected 2 = .ok (.invokevirtual 23, 3) := by decide +kernel
theorem dX4_expected_5 : decode cX4_expected 5 = .ok (.aload_n 0, 1) := by decide +kernel
theorem dX4_expected_6 : decode cX4_expected 6 = .ok (.iload_n 1, 1) := by decide +kernel
theorem dX4_expected_7 : decode cX4_expected 7 = .ok (.invokevirtual 27, 3) := by decide +kernel
theorem dX4_expected_10 : decode cX4_expected 10 = .ok (.getfield 34, 3) := by decide +kernel
theorem dX4_expected_13 : decode cX4_expected 13 = .ok (.getfield 103, 3) := by decide +kernel
theorem dX4_expected_16 : decode cX4_expected 16 = .ok (.ireturn, 1) := by decide +kernel
set_option maxRecDepth 20000 in
theorem ggX4_isAsking_X4_checkSide : GoodIn wsX4_isAsking wsX4_checkSide := goodIn_ca (goodIn_r _ [5, 6, 7] (by decide +kernel) (by decide +kernel)) (goodIn_sub (fun _ h => List.mem_cons_of_mem _ (List.mem_append_right _ h)) (by decide +kernel))
set_option maxRecDepth 20000 in
theorem gX4_isAsking_X4_checkSide : GoodIn wsX4_isAsking (wsV RX4 23 RX4 yX4_checkSide wsX4_checkSide) := goodIn_app (goodIn_of _ (by decide +kernel)) ggX4_isAsking_X4_checkSide
set_option maxRecDepth 20000 in
theorem ggX4_isAsking_X4_sideOf : GoodIn wsX4_isAsking wsX4_sideOf := goodIn_r _ [11, 12, 13, 22, 23, 24] (by decide +kernel) (by decide +kernel)
set_option maxRecDepth 20000 in
theorem gX4_isAsking_X4_sideOf : GoodIn wsX4_isAsking (wsV RX4 27 RX4 yX4_sideOf wsX4_sideOf) := goodIn_app (goodIn_of _ (by decide +kernel)) ggX4_isAsking_X4_sideOf
theorem dX4_isAsking_0 : decode cX4_isAsking 0 = .ok (.aload_n 0, 1) := by decide +kernel
theorem dX4_isAsking_1 : decode cX4_isAsking 1 = .ok (.iload_n 1, 1) := by decide +kernel
theorem dX4_isAsking_2 : decode cX4_isAsking 2 = .ok (.invokevirtual 23, 3) := by decide +kernel
theorem dX4_isAsking_5 : decode cX4_isAsking 5 = .ok (.aload_n 0, 1) := by decide +kernel
theorem dX4_isAsking_6 : decode cX4_isAsking 6 = .ok (.iload_n 1, 1) := by decide +kernel
theorem dX4_isAsking_7 : decode cX4_isAsking 7 = .ok (.invokevirtual 27, 3) := by decide +kernel
theorem dX4_isAsking_10 : decode cX4_isAsking 10 = .ok (.getfield 106, 3) := by decide +kernel
theorem dX4_isAsking_13 : decode cX4_isAsking 13 = .ok (.ireturn, 1) := by decide +kernel
set_option maxRecDepth 20000 in
theorem ggX4_wire_X4_checkSide : GoodIn wsX4_wire wsX4_checkSide := goodIn_ca (goodIn_r _ [5, 6, 7] (by decide +kernel) (by decide +kernel)) (goodIn_sub (fun _ h => List.mem_cons_of_mem _ (List.mem_append_right _ h)) (by decide +kernel))
set_option maxRecDepth 20000 in
theorem gX4_wire_X4_checkSide : GoodIn wsX4_wire (wsV RX4 23 RX4 yX4_checkSide wsX4_checkSide) := goodIn_app (goodIn_of _ (by decide +kernel)) ggX4_wire_X4_checkSide
set_option maxRecDepth 20000 in
theorem ggX4_wire_X4_sideOf : GoodIn wsX4_wire wsX4_sideOf := goodIn_r _ [11, 12, 13, 24, 25, 26] (by decide +kernel) (by decide +kernel)
set_option maxRecDepth 20000 in
theorem gX4_wire_X4_sideOf : GoodIn wsX4_wire (wsV RX4 27 RX4 yX4_sideOf wsX4_sideOf) := goodIn_app (goodIn_of _ (by decide +kernel)) ggX4_wire_X4_sideOf
theorem dX4_wire_0 : decode cX4_wire 0 = .ok (.aload_n 0, 1) := by decide +kernel
theorem dX4_wire_1 : decode cX4_wire 1 = .ok (.iload_n 1, 1) := by decide +kernel
theorem dX4_wire_2 : decode cX4_wire 2 = .ok (.invokevirtual 23, 3) := by decide +kernel
theorem dX4_wire_5 : decode cX4_wire 5 = .ok (.aload_n 0, 1) := by decide +kernel
theorem dX4_wire_6 : decode cX4_wire 6 = .ok (.iload_n 1, 1) := by decide +kernel
theorem dX4_wire_7 : decode cX4_wire 7 = .ok (.invokevirtual 27, 3) := by decide +kernel
theorem dX4_wire_10 : decode cX4_wire 10 = .ok (.getfield 110, 3) := by decide +kernel
theorem dX4_wire_13 : decode cX4_wire 13 = .ok (.getfield 114, 3) := by decide +kernel
theorem dX4_wire_16 : decode cX4_wire 16 = .ok (.ireturn, 1) := by decide +kernel
set_option maxRecDepth 20000 in
theorem ggX4_numberAt_X4_messageAt : GoodIn wsX4_numberAt wsX4_messageAt := goodIn_ca (goodIn_r _ [5, 6, 7, 8, 9, 10, 4, 11, 12, 13, 14, 15, 16, 17, 18, 19, 20, 21, 22, 23, 28, 29, 30, 31, 32, 33, 34, 35, 36, 37, 38, 39, 40] (by decide +kernel) (by decide +kernel)) (goodIn_sub (fun _ h => List.mem_cons_of_mem _ (List.mem_append_right _ h)) (by decide +kernel))
set_option maxRecDepth 20000 in
theorem gX4_numberAt_X4_messageAt : GoodIn wsX4_numberAt (wsV RX4 119 RX4 yX4_messageAt wsX4_messageAt) := goodIn_app (goodIn_of _ (by decide +kernel)) ggX4_numberAt_X4_messageAt
set_option maxRecDepth 20000 in
theorem ggX4_numberAt_X0_numberOf : GoodIn wsX4_numberAt wsX0_numberOf := goodIn_r _ [27] (by decide +kernel) (by decide +kernel)
set_option maxRecDepth 20000 in
theorem gX4_numberAt_X0_numberOf : GoodIn wsX4_numberAt (va_wsS RX4 123 yX0_numberOf wsX0_numberOf) := goodIn_app (goodIn_of _ (by decide +kernel)) ggX4_numberAt_X0_numberOf
theorem dX4_numberAt_0 : decode cX4_numberAt 0 = .ok (.aload_n 0, 1) := by decide +kernel
theorem dX4_numberAt_1 : decode cX4_numberAt 1 = .ok (.iload_n 1, 1) := by decide +kernel
theorem dX4_numberAt_2 : decode cX4_numberAt 2 = .ok (.iload_n 2, 1) := by decide +kernel
theorem dX4_numberAt_3 : decode cX4_numberAt 3 = .ok (.invokevirtual 119, 3) := by decide +kernel
theorem dX4_numberAt_6 : decode cX4_numberAt 6 = .ok (.invokestatic 123, 3) := by decide +kernel
theorem dX4_numberAt_9 : decode cX4_numberAt 9 = .ok (.ireturn, 1) := by decide +kernel
set_option maxRecDepth 20000 in
theorem ggX4_textLength_X4_messageAt : GoodIn wsX4_textLength wsX4_messageAt := goodIn_ca (goodIn_r _ [5, 6, 7, 8, 9, 10, 4, 11, 12, 13, 14, 15, 16, 17, 18, 19, 20, 21, 22, 23, 259, 260, 261, 262, 263, 264, 265, 266, 267, 268, 269, 270, 271] (by decide +kernel) (by decide +kernel)) (goodIn_sub (fun _ h => List.mem_cons_of_mem _ (List.mem_append_right _ h)) (by decide +kernel))
set_option maxRecDepth 20000 in
theorem gX4_textLength_X4_messageAt : GoodIn wsX4_textLength (wsV RX4 119 RX4 yX4_messageAt wsX4_messageAt) := goodIn_app (goodIn_of _ (by decide +kernel)) ggX4_textLength_X4_messageAt
set_option maxRecDepth 20000 in
theorem ggX4_textLength_X0_textOf : GoodIn wsX4_textLength wsX0_textOf := goodIn_r _ [27, 28, 29, 30, 31, 32, 33, 34, 26, 35, 36, 37, 38, 39, 40, 41, 42, 43, 44, 45, 46, 47, 48, 49, 50, 51, 52, 53, 54, 55, 56, 57, 58, 59, 60, 61, 62, 63, 64, 65, 66, 67, 68, 69, 70, 71, 72, 73, 74, 75, 76, 77, 78, 79, 80, 81, 82, 83, 84, 85, 86, 87, 88, 89, 90, 91, 92, 93, 94, 95, 96, 97, 98, 99, 100, 101, 102, 103, 104, 105, 106, 107, 108, 109, 110, 111, 112, 113, 114, 115, 116, 117, 118, 119, 120, 121, 122, 123, 124, 125, 126, 127, 128, 129, 130, 131, 132, 133, 134, 135, 136, 137, 138, 139, 140, 141, 142, 143, 144, 145, 146, 147, 148, 149, 150, 151, 152, 153, 154, 155, 156, 157, 158, 159, 160, 161, 162, 163, 164, 165, 166, 167, 168, 169, 170, 171, 172, 173, 174, 175, 176, 177, 178, 179, 180, 181, 182, 183, 184, 185, 186, 187, 188, 189, 190, 191, 192, 193, 194, 195, 196, 197, 198, 199, 200, 201, 202, 203, 204, 205, 206, 207, 208, 209, 210, 211, 212, 213, 214, 215, 216, 217, 218, 219, 220, 221, 222, 223, 224, 225, 226, 227, 228, 229, 230, 231, 232, 233, 234, 235, 236, 237, 238, 239, 240, 241, 242, 243, 244, 245, 246, 247, 248, 249, 250, 272, 273, 274, 275] (by decide +kernel) (by decide +kernel)
set_option maxRecDepth 20000 in
theorem gX4_textLength_X0_textOf : GoodIn wsX4_textLength (va_wsS RX4 126 yX0_textOf wsX0_textOf) := goodIn_app (goodIn_of _ (by decide +kernel)) ggX4_textLength_X0_textOf
set_option maxRecDepth 20000 in
theorem ggX4_textLength_J4_length_8abf5 : GoodIn wsX4_textLength wsJ4_length_8abf5 := goodIn_r _ [254, 255, 256, 67, 257, 41, 258, 70, 272, 273, 274, 275] (by decide +kernel) (by decide +kernel)
set_option maxRecDepth 20000 in
theorem gX4_textLength_J4_length_8abf5 : GoodIn wsX4_textLength (wsV RX4 130 RJ4 yJ4_length_8abf5 wsJ4_length_8abf5) := goodIn_app (goodIn_of _ (by decide +kernel)) ggX4_textLength_J4_length_8abf5
theorem dX4_textLength_0 : decode cX4_textLength 0 = .ok (.aload_n 0, 1) := by decide +kernel
theorem dX4_textLength_1 : decode cX4_textLength 1 = .ok (.iload_n 1, 1) := by decide +kernel
theorem dX4_textLength_2 : decode cX4_textLength 2 = .ok (.iload_n 2, 1) := by decide +kernel
theorem dX4_textLength_3 : decode cX4_textLength 3 = .ok (.invokevirtual 119, 3) := by decide +kernel
theorem dX4_textLength_6 : decode cX4_textLength 6 = .ok (.invokestatic 126, 3) := by decide +kernel
theorem dX4_textLength_9 : decode cX4_textLength 9 = .ok (.invokevirtual 130, 3) := by decide +kernel
theorem dX4_textLength_12 : decode cX4_textLength 12 = .ok (.ireturn, 1) := by decide +kernel
set_option maxRecDepth 20000 in
theorem ggX4_textChar_X4_messageAt : GoodIn wsX4_textChar wsX4_messageAt := goodIn_ca (goodIn_r _ [7, 1, 2, 8, 9, 10, 6, 11, 12, 13, 14, 15, 16, 17, 18, 19, 20, 21, 22, 23, 272, 273, 274, 275, 276, 277, 278, 279, 280, 281, 282, 283, 284] (by decide +kernel) (by decide +kernel)) (goodIn_sub (fun _ h => List.mem_cons_of_mem _ (List.mem_append_right _ h)) (by decide +kernel))
set_option maxRecDepth 20000 in
theorem gX4_textChar_X4_messageAt : GoodIn wsX4_textChar (wsV RX4 119 RX4 yX4_messageAt wsX4_messageAt) := goodIn_app (goodIn_of _ (by decide +kernel)) ggX4_textChar_X4_messageAt
set_option maxRecDepth 20000 in
theorem ggX4_textChar_X0_textOf : GoodIn wsX4_textChar wsX0_textOf := goodIn_r _ [27, 28, 29, 30, 31, 32, 33, 34, 26, 35, 36, 37, 38, 39, 40, 41, 42, 43, 44, 45, 46, 47, 48, 49, 50, 51, 52, 53, 54, 55, 56, 57, 58, 59, 60, 61, 62, 63, 64, 65, 66, 67, 68, 69, 70, 71, 72, 73, 74, 75, 76, 77, 78, 79, 80, 81, 82, 83, 84, 85, 86, 87, 88, 89, 90, 91, 92, 93, 94, 95, 96, 97, 98, 99, 100, 101, 102, 103, 104, 105, 106, 107, 108, 109, 110, 111, 112, 113, 114, 115, 116, 117, 118, 119, 120, 121, 122, 123, 124, 125, 126, 127, 128, 129, 130, 131, 132, 133, 134, 135, 136, 137, 138, 139, 140, 141, 142, 143, 144, 145, 146, 147, 148, 149, 150, 151, 152, 153, 154, 155, 156, 157, 158, 159, 160, 161, 162, 163, 164, 165, 166, 167, 168, 169, 170, 171, 172, 173, 174, 175, 176, 177, 178, 179, 180, 181, 182, 183, 184, 185, 186, 187, 188, 189, 190, 191, 192, 193, 194, 195, 196, 197, 198, 199, 200, 201, 202, 203, 204, 205, 206, 207, 208, 209, 210, 211, 212, 213, 214, 215, 216, 217, 218, 219, 220, 221, 222, 223, 224, 225, 226, 227, 228, 229, 230, 231, 232, 233, 234, 235, 236, 237, 238, 239, 240, 241, 242, 243, 244, 245, 246, 247, 248, 249, 250, 285, 286, 287, 288] (by decide +kernel) (by decide +kernel)
set_option maxRecDepth 20000 in
theorem gX4_textChar_X0_textOf : GoodIn wsX4_textChar (va_wsS RX4 126 yX0_textOf wsX0_textOf) := goodIn_app (goodIn_of _ (by decide +kernel)) ggX4_textChar_X0_textOf
set_option maxRecDepth 20000 in
theorem ggX4_textChar_J4_length_8abf5 : GoodIn wsX4_textChar wsJ4_length_8abf5 := goodIn_r _ [254, 255, 256, 67, 257, 41, 258, 70, 285, 286, 287, 288] (by decide +kernel) (by decide +kernel)
set_option maxRecDepth 20000 in
theorem gX4_textChar_J4_length_8abf5 : GoodIn wsX4_textChar (wsV RX4 130 RJ4 yJ4_length_8abf5 wsJ4_length_8abf5) := goodIn_app (goodIn_of _ (by decide +kernel)) ggX4_textChar_J4_length_8abf5
set_option maxRecDepth 20000 in
theorem ggX4_textChar_J4_charAt_5068e : GoodIn wsX4_textChar wsJ4_charAt_5068e := goodIn_r _ [262, 263, 264, 67, 265, 41, 266, 49, 48, 70, 267, 109, 92, 110, 268, 193, 137, 194, 139, 195, 196, 142, 197, 269, 270, 52, 271, 128, 152, 153, 132, 133, 134, 285, 286, 287, 288] (by decide +kernel) (by decide +kernel)
set_option maxRecDepth 20000 in
theorem gX4_textChar_J4_charAt_5068e : GoodIn wsX4_textChar (wsV RX4 136 RJ4 yJ4_charAt_5068e wsJ4_charAt_5068e) := goodIn_app (goodIn_of _ (by decide +kernel)) ggX4_textChar_J4_charAt_5068e
theorem dX4_textChar_0 : decode cX4_textChar 0 = .ok (.aload_n 0, 1) := by decide +kernel
theorem dX4_textChar_1 : decode cX4_textChar 1 = .ok (.iload_n 1, 1) := by decide +kernel
theorem dX4_textChar_2 : decode cX4_textChar 2 = .ok (.iload_n 2, 1) := by decide +kernel
theorem dX4_textChar_3 : decode cX4_textChar 3 = .ok (.invokevirtual 119, 3) := by decide +kernel
theorem dX4_textChar_6 : decode cX4_textChar 6 = .ok (.invokestatic 126, 3) := by decide +kernel
theorem dX4_textChar_9 : decode cX4_textChar 9 = .ok (.astore 4, 2) := by decide +kernel
theorem dX4_textChar_11 : decode cX4_textChar 11 = .ok (.iload_n 3, 1) := by decide +kernel
theorem dX4_textChar_12 : decode cX4_textChar 12 = .ok (.ifCond .lt 12, 3) := by decide +kernel
theorem dX4_textChar_15 : decode cX4_textChar 15 = .ok (.iload_n 3, 1) := by decide +kernel
theorem dX4_textChar_16 : decode cX4_textChar 16 = .ok (.aload 4, 2) := by decide +kernel
theorem dX4_textChar_18 : decode cX4_textChar 18 = .ok (.invokevirtual 130, 3) := by decide +kernel
theorem dX4_textChar_21 : decode cX4_textChar 21 = .ok (.if_icmp .lt 11, 3) := by decide +kernel
theorem dX4_textChar_24 : decode cX4_textChar 24 = .ok (.new 76, 3) := by decide +kernel
theorem dX4_textChar_27 : decode cX4_textChar 27 = .ok (.dup, 1) := by decide +kernel
theorem dX4_textChar_28 : decode cX4_textChar 28 = .ok (.invokespecial 78, 3) := by decide +kernel
theorem dX4_textChar_31 : decode cX4_textChar 31 = .ok (.athrow, 1) := by decide +kernel
theorem dX4_textChar_32 : decode cX4_textChar 32 = .ok (.aload 4, 2) := by decide +kernel
theorem dX4_textChar_34 : decode cX4_textChar 34 = .ok (.iload_n 3, 1) := by decide +kernel
theorem dX4_textChar_35 : decode cX4_textChar 35 = .ok (.invokevirtual 136, 3) := by decide +kernel
theorem dX4_textChar_38 : decode cX4_textChar 38 = .ok (.ireturn, 1) := by decide +kernel
set_option maxRecDepth 20000 in
theorem ggX4_handled_X4_checkSide : GoodIn wsX4_handled wsX4_checkSide := goodIn_ca (goodIn_r _ [5, 6, 7] (by decide +kernel) (by decide +kernel)) (goodIn_sub (fun _ h => List.mem_cons_of_mem _ (List.mem_append_right _ h)) (by decide +kernel))
set_option maxRecDepth 20000 in
theorem gX4_handled_X4_checkSide : GoodIn wsX4_handled (wsV RX4 23 RX4 yX4_checkSide wsX4_checkSide) := goodIn_app (goodIn_of _ (by decide +kernel)) ggX4_handled_X4_checkSide
set_option maxRecDepth 20000 in
theorem ggX4_handled_X4_sideOf : GoodIn wsX4_handled wsX4_sideOf := goodIn_r _ [11, 12, 13, 28, 29, 30] (by decide +kernel) (by decide +kernel)
set_option maxRecDepth 20000 in
theorem gX4_handled_X4_sideOf : GoodIn wsX4_handled (wsV RX4 27 RX4 yX4_sideOf wsX4_sideOf) := goodIn_app (goodIn_of _ (by decide +kernel)) ggX4_handled_X4_sideOf
theorem dX4_handled_0 : decode cX4_handled 0 = .ok (.aload_n 0, 1) := by decide +kernel
theorem dX4_handled_1 : decode cX4_handled 1 = .ok (.iload_n 1, 1) := by decide +kernel
theorem dX4_handled_2 : decode cX4_handled 2 = .ok (.invokevirtual 23, 3) := by decide +kernel
theorem dX4_handled_5 : decode cX4_handled 5 = .ok (.aload_n 0, 1) := by decide +kernel
theorem dX4_handled_6 : decode cX4_handled 6 = .ok (.iload_n 1, 1) := by decide +kernel
theorem dX4_handled_7 : decode cX4_handled 7 = .ok (.invokevirtual 27, 3) := by decide +kernel
theorem dX4_handled_10 : decode cX4_handled 10 = .ok (.getfield 34, 3) := by decide +kernel
theorem dX4_handled_13 : decode cX4_handled 13 = .ok (.getfield 140, 3) := by decide +kernel
theorem dX4_handled_16 : decode cX4_handled 16 = .ok (.ireturn, 1) := by decide +kernel
set_option maxRecDepth 20000 in
theorem ggX4_handledKey_X4_checkSide : GoodIn wsX4_handledKey wsX4_checkSide := goodIn_ca (goodIn_r _ [7, 1, 2] (by decide +kernel) (by decide +kernel)) (goodIn_sub (fun _ h => List.mem_cons_of_mem _ (List.mem_append_right _ h)) (by decide +kernel))
set_option maxRecDepth 20000 in
theorem gX4_handledKey_X4_checkSide : GoodIn wsX4_handledKey (wsV RX4 23 RX4 yX4_checkSide wsX4_checkSide) := goodIn_app (goodIn_of _ (by decide +kernel)) ggX4_handledKey_X4_checkSide
set_option maxRecDepth 20000 in
theorem ggX4_handledKey_X4_sideOf : GoodIn wsX4_handledKey wsX4_sideOf := goodIn_r _ [11, 12, 13, 34, 35, 36] (by decide +kernel) (by decide +kernel)
set_option maxRecDepth 20000 in
theorem gX4_handledKey_X4_sideOf : GoodIn wsX4_handledKey (wsV RX4 27 RX4 yX4_sideOf wsX4_sideOf) := goodIn_app (goodIn_of _ (by decide +kernel)) ggX4_handledKey_X4_sideOf
set_option maxRecDepth 20000 in
theorem ggX4_handledKey_X2_keyAt : GoodIn wsX4_handledKey wsX2_keyAt := goodIn_r _ [18, 19, 28, 29, 30, 31, 32, 33] (by decide +kernel) (by decide +kernel)
set_option maxRecDepth 20000 in
theorem gX4_handledKey_X2_keyAt : GoodIn wsX4_handledKey (wsV RX4 143 RX2 yX2_keyAt wsX2_keyAt) := goodIn_app (goodIn_of _ (by decide +kernel)) ggX4_handledKey_X2_keyAt
theorem dX4_handledKey_0 : decode cX4_handledKey 0 = .ok (.aload_n 0, 1) := by decide +kernel
theorem dX4_handledKey_1 : decode cX4_handledKey 1 = .ok (.iload_n 1, 1) := by decide +kernel
theorem dX4_handledKey_2 : decode cX4_handledKey 2 = .ok (.invokevirtual 23, 3) := by decide +kernel
theorem dX4_handledKey_5 : decode cX4_handledKey 5 = .ok (.aload_n 0, 1) := by decide +kernel
theorem dX4_handledKey_6 : decode cX4_handledKey 6 = .ok (.iload_n 1, 1) := by decide +kernel
theorem dX4_handledKey_7 : decode cX4_handledKey 7 = .ok (.invokevirtual 27, 3) := by decide +kernel
theorem dX4_handledKey_10 : decode cX4_handledKey 10 = .ok (.getfield 34, 3) := by decide +kernel
theorem dX4_handledKey_13 : decode cX4_handledKey 13 = .ok (.astore_n 3, 1) := by decide +kernel
theorem dX4_handledKey_14 : decode cX4_handledKey 14 = .ok (.iload_n 2, 1) := by decide +kernel
theorem dX4_handledKey_15 : decode cX4_handledKey 15 = .ok (.ifCond .lt 11, 3) := by decide +kernel
theorem dX4_handledKey_18 : decode cX4_handledKey 18 = .ok (.iload_n 2, 1) := by decide +kernel
theorem dX4_handledKey_19 : decode cX4_handledKey 19 = .ok (.aload_n 3, 1) := by decide +kernel
theorem dX4_handledKey_20 : decode cX4_handledKey 20 = .ok (.getfield 140, 3) := by decide +kernel
theorem dX4_handledKey_23 : decode cX4_handledKey 23 = .ok (.if_icmp .lt 11, 3) := by decide +kernel
theorem dX4_handledKey_26 : decode cX4_handledKey 26 = .ok (.new 76, 3) := by decide +kernel
theorem dX4_handledKey_29 : decode cX4_handledKey 29 = .ok (.dup, 1) := by decide +kernel
theorem dX4_handledKey_30 : decode cX4_handledKey 30 = .ok (.invokespecial 78, 3) := by decide +kernel
theorem dX4_handledKey_33 : decode cX4_handledKey 33 = .ok (.athrow, 1) := by decide +kernel
theorem dX4_handledKey_34 : decode cX4_handledKey 34 = .ok (.aload_n 3, 1) := by decide +kernel
theorem dX4_handledKey_35 : decode cX4_handledKey 35 = .ok (.iload_n 2, 1) := by decide +kernel
theorem dX4_handledKey_36 : decode cX4_handledKey 36 = .ok (.invokevirtual 143, 3) := by decide +kernel
theorem dX4_handledKey_39 : decode cX4_handledKey 39 = .ok (.ireturn, 1) := by decide +kernel
set_option maxRecDepth 20000 in
theorem ggX4_doubles_X4_checkSide : GoodIn wsX4_doubles wsX4_checkSide := goodIn_ca (goodIn_r _ [5, 6, 7] (by decide +kernel) (by decide +kernel)) (goodIn_sub (fun _ h => List.mem_cons_of_mem _ (List.mem_append_right _ h)) (by decide +kernel))
set_option maxRecDepth 20000 in
theorem gX4_doubles_X4_checkSide : GoodIn wsX4_doubles (wsV RX4 23 RX4 yX4_checkSide wsX4_checkSide) := goodIn_app (goodIn_of _ (by decide +kernel)) ggX4_doubles_X4_checkSide
set_option maxRecDepth 20000 in
theorem ggX4_doubles_X4_sideOf : GoodIn wsX4_doubles wsX4_sideOf := goodIn_r _ [11, 12, 13, 28, 29, 30] (by decide +kernel) (by decide +kernel)
set_option maxRecDepth 20000 in
theorem gX4_doubles_X4_sideOf : GoodIn wsX4_doubles (wsV RX4 27 RX4 yX4_sideOf wsX4_sideOf) := goodIn_app (goodIn_of _ (by decide +kernel)) ggX4_doubles_X4_sideOf
theorem dX4_doubles_0 : decode cX4_doubles 0 = .ok (.aload_n 0, 1) := by decide +kernel
theorem dX4_doubles_1 : decode cX4_doubles 1 = .ok (.iload_n 1, 1) := by decide +kernel
theorem dX4_doubles_2 : decode cX4_doubles 2 = .ok (.invokevirtual 23, 3) := by decide +kernel
theorem dX4_doubles_5 : decode cX4_doubles 5 = .ok (.aload_n 0, 1) := by decide +kernel
theorem dX4_doubles_6 : decode cX4_doubles 6 = .ok (.iload_n 1, 1) := by decide +kernel
theorem dX4_doubles_7 : decode cX4_doubles 7 = .ok (.invokevirtual 27, 3) := by decide +kernel
theorem dX4_doubles_10 : decode cX4_doubles 10 = .ok (.getfield 34, 3) := by decide +kernel
theorem dX4_doubles_13 : decode cX4_doubles 13 = .ok (.getfield 146, 3) := by decide +kernel
theorem dX4_doubles_16 : decode cX4_doubles 16 = .ok (.ireturn, 1) := by decide +kernel
set_option maxRecDepth 20000 in
theorem ggX4_agreed_X4_checkSide : GoodIn wsX4_agreed wsX4_checkSide := goodIn_ca (goodIn_r _ [9, 10, 11] (by decide +kernel) (by decide +kernel)) (goodIn_sub (fun _ h => List.mem_cons_of_mem _ (List.mem_append_right _ h)) (by decide +kernel))
set_option maxRecDepth 20000 in
theorem gX4_agreed_X4_checkSide : GoodIn wsX4_agreed (wsV RX4 23 RX4 yX4_checkSide wsX4_checkSide) := goodIn_app (goodIn_of _ (by decide +kernel)) ggX4_agreed_X4_checkSide
set_option maxRecDepth 20000 in
theorem ggX4_agreed_X4_sideOf : GoodIn wsX4_agreed wsX4_sideOf := goodIn_r _ [15, 16, 17, 73, 74, 75] (by decide +kernel) (by decide +kernel)
set_option maxRecDepth 20000 in
theorem gX4_agreed_X4_sideOf : GoodIn wsX4_agreed (wsV RX4 27 RX4 yX4_sideOf wsX4_sideOf) := goodIn_app (goodIn_of _ (by decide +kernel)) ggX4_agreed_X4_sideOf
set_option maxRecDepth 20000 in
theorem ggX4_agreed_X4_otherOf : GoodIn wsX4_agreed wsX4_otherOf := goodIn_r _ [21, 17, 16, 73, 74, 75] (by decide +kernel) (by decide +kernel)
set_option maxRecDepth 20000 in
theorem gX4_agreed_X4_otherOf : GoodIn wsX4_agreed (wsV RX4 149 RX4 yX4_otherOf wsX4_otherOf) := goodIn_app (goodIn_of _ (by decide +kernel)) ggX4_agreed_X4_otherOf
set_option maxRecDepth 20000 in
theorem ggX4_agreed_X2_tellsKey : GoodIn wsX4_agreed wsX2_tellsKey := goodIn_r _ [26, 27, 28, 29, 30, 25, 31, 32, 33, 34, 35, 36, 37, 38, 39, 40, 41, 42, 43, 44, 45, 46, 47, 48, 49, 50, 51, 67, 68, 69, 70, 71, 72] (by decide +kernel) (by decide +kernel)
set_option maxRecDepth 20000 in
theorem gX4_agreed_X2_tellsKey : GoodIn wsX4_agreed (wsV RX4 157 RX2 yX2_tellsKey wsX2_tellsKey) := goodIn_app (goodIn_of _ (by decide +kernel)) ggX4_agreed_X2_tellsKey
set_option maxRecDepth 20000 in
theorem ggX4_agreed_X2_keyAt : GoodIn wsX4_agreed wsX2_keyAt := goodIn_r _ [55, 56, 67, 68, 69, 70, 71, 72] (by decide +kernel) (by decide +kernel)
set_option maxRecDepth 20000 in
theorem gX4_agreed_X2_keyAt : GoodIn wsX4_agreed (wsV RX4 143 RX2 yX2_keyAt wsX2_keyAt) := goodIn_app (goodIn_of _ (by decide +kernel)) ggX4_agreed_X2_keyAt
set_option maxRecDepth 20000 in
theorem ggX4_agreed_X2_sentAt : GoodIn wsX4_agreed wsX2_sentAt := goodIn_r _ [36, 37, 67, 68, 69, 70, 71, 72] (by decide +kernel) (by decide +kernel)
set_option maxRecDepth 20000 in
theorem gX4_agreed_X2_sentAt : GoodIn wsX4_agreed (wsV RX4 79 RX2 yX2_sentAt wsX2_sentAt) := goodIn_app (goodIn_of _ (by decide +kernel)) ggX4_agreed_X2_sentAt
set_option maxRecDepth 20000 in
theorem ggX4_agreed_X0_toldBy : GoodIn wsX4_agreed wsX0_toldBy := goodIn_r _ [47] (by decide +kernel) (by decide +kernel)
set_option maxRecDepth 20000 in
theorem gX4_agreed_X0_toldBy : GoodIn wsX4_agreed (va_wsS RX4 83 yX0_toldBy wsX0_toldBy) := goodIn_app (goodIn_of _ (by decide +kernel)) ggX4_agreed_X0_toldBy
theorem dX4_agreed_0 : decode cX4_agreed 0 = .ok (.aload_n 0, 1) := by decide +kernel
theorem dX4_agreed_1 : decode cX4_agreed 1 = .ok (.iload_n 1, 1) := by decide +kernel
theorem dX4_agreed_2 : decode cX4_agreed 2 = .ok (.invokevirtual 23, 3) := by decide +kernel
theorem dX4_agreed_5 : decode cX4_agreed 5 = .ok (.aload_n 0, 1) := by decide +kernel
theorem dX4_agreed_6 : decode cX4_agreed 6 = .ok (.iload_n 1, 1) := by decide +kernel
theorem dX4_agreed_7 : decode cX4_agreed 7 = .ok (.invokevirtual 27, 3) := by decide +kernel
theorem dX4_agreed_10 : decode cX4_agreed 10 = .ok (.getfield 34, 3) := by decide +kernel
theorem dX4_agreed_13 : decode cX4_agreed 13 = .ok (.astore_n 2, 1) := by decide +kernel
theorem dX4_agreed_14 : decode cX4_agreed 14 = .ok (.aload_n 0, 1) := by decide +kernel
theorem dX4_agreed_15 : decode cX4_agreed 15 = .ok (.iload_n 1, 1) := by decide +kernel
theorem dX4_agreed_16 : decode cX4_agreed 16 = .ok (.invokevirtual 149, 3) := by decide +kernel
theorem dX4_agreed_19 : decode cX4_agreed 19 = .ok (.getfield 34, 3) := by decide +kernel
theorem dX4_agreed_22 : decode cX4_agreed 22 = .ok (.astore_n 3, 1) := by decide +kernel
theorem dX4_agreed_23 : decode cX4_agreed 23 = .ok (.aload_n 2, 1) := by decide +kernel
theorem dX4_agreed_24 : decode cX4_agreed 24 = .ok (.getfield 103, 3) := by decide +kernel
theorem dX4_agreed_27 : decode cX4_agreed 27 = .ok (.iconst 1, 1) := by decide +kernel
theorem dX4_agreed_28 : decode cX4_agreed 28 = .ok (.isub, 1) := by decide +kernel
theorem dX4_agreed_29 : decode cX4_agreed 29 = .ok (.aload_n 3, 1) := by decide +kernel
theorem dX4_agreed_30 : decode cX4_agreed 30 = .ok (.getfield 63, 3) := by decide +kernel
theorem dX4_agreed_33 : decode cX4_agreed 33 = .ok (.invokestatic 152, 3) := by decide +kernel
theorem dX4_agreed_36 : decode cX4_agreed 36 = .ok (.istore 4, 2) := by decide +kernel
theorem dX4_agreed_38 : decode cX4_agreed 38 = .ok (.iconst 0, 1) := by decide +kernel
theorem dX4_agreed_39 : decode cX4_agreed 39 = .ok (.istore 5, 2) := by decide +kernel
theorem dX4_agreed_41 : decode cX4_agreed 41 = .ok (.iconst 1, 1) := by decide +kernel
theorem dX4_agreed_42 : decode cX4_agreed 42 = .ok (.istore 6, 2) := by decide +kernel
theorem dX4_agreed_44 : decode cX4_agreed 44 = .ok (.iload 6, 2) := by decide +kernel
theorem dX4_agreed_46 : decode cX4_agreed 46 = .ok (.iload 4, 2) := by decide +kernel
theorem dX4_agreed_48 : decode cX4_agreed 48 = .ok (.if_icmp .gt 54, 3) := by decide +kernel
theorem dX4_agreed_51 : decode cX4_agreed 51 = .ok (.aload_n 3, 1) := by decide +kernel
theorem dX4_agreed_52 : decode cX4_agreed 52 = .ok (.iload 6, 2) := by decide +kernel
theorem dX4_agreed_54 : decode cX4_agreed 54 = .ok (.invokevirtual 157, 3) := by decide +kernel
theorem dX4_agreed_57 : decode cX4_agreed 57 = .ok (.ifCond .ne 6, 3) := by decide +kernel
theorem dX4_agreed_60 : decode cX4_agreed 60 = .ok (.goto 36, 3) := by decide +kernel
theorem dX4_agreed_63 : decode cX4_agreed 63 = .ok (.iload 5, 2) := by decide +kernel
theorem dX4_agreed_65 : decode cX4_agreed 65 = .ok (.aload_n 2, 1) := by decide +kernel
theorem dX4_agreed_66 : decode cX4_agreed 66 = .ok (.getfield 140, 3) := by decide +kernel
theorem dX4_agreed_69 : decode cX4_agreed 69 = .ok (.if_icmp .ge 21, 3) := by decide +kernel
theorem dX4_agreed_72 : decode cX4_agreed 72 = .ok (.aload_n 2, 1) := by decide +kernel
theorem dX4_agreed_73 : decode cX4_agreed 73 = .ok (.iload 5, 2) := by decide +kernel
theorem dX4_agreed_75 : decode cX4_agreed 75 = .ok (.invokevirtual 143, 3) := by decide +kernel
theorem dX4_agreed_78 : decode cX4_agreed 78 = .ok (.aload_n 3, 1) := by decide +kernel
theorem dX4_agreed_79 : decode cX4_agreed 79 = .ok (.iload 6, 2) := by decide +kernel
theorem dX4_agreed_81 : decode cX4_agreed 81 = .ok (.invokevirtual 79, 3) := by decide +kernel
theorem dX4_agreed_84 : decode cX4_agreed 84 = .ok (.invokestatic 83, 3) := by decide +kernel
theorem dX4_agreed_87 : decode cX4_agreed 87 = .ok (.if_icmp .eq 6, 3) := by decide +kernel
theorem dX4_agreed_90 : decode cX4_agreed 90 = .ok (.iload 5, 2) := by decide +kernel
theorem dX4_agreed_92 : decode cX4_agreed 92 = .ok (.ireturn, 1) := by decide +kernel
theorem dX4_agreed_93 : decode cX4_agreed 93 = .ok (.iinc 5 1, 3) := by decide +kernel
theorem dX4_agreed_96 : decode cX4_agreed 96 = .ok (.iinc 6 1, 3) := by decide +kernel
theorem dX4_agreed_99 : decode cX4_agreed 99 = .ok (.goto (-55), 3) := by decide +kernel
theorem dX4_agreed_102 : decode cX4_agreed 102 = .ok (.iload 5, 2) := by decide +kernel
theorem dX4_agreed_104 : decode cX4_agreed 104 = .ok (.ireturn, 1) := by decide +kernel
theorem dX4_checkSide_0 : decode cX4_checkSide 0 = .ok (.iload_n 1, 1) := by decide +kernel
theorem dX4_checkSide_1 : decode cX4_checkSide 1 = .ok (.ifCond .eq 16, 3) := by decide +kernel
theorem dX4_checkSide_4 : decode cX4_checkSide 4 = .ok (.iload_n 1, 1) := by decide +kernel
theorem dX4_checkSide_5 : decode cX4_checkSide 5 = .ok (.iconst 1, 1) := by decide +kernel
theorem dX4_checkSide_6 : decode cX4_checkSide 6 = .ok (.if_icmp .eq 11, 3) := by decide +kernel
theorem dX4_checkSide_9 : decode cX4_checkSide 9 = .ok (.new 76, 3) := by decide +kernel
theorem dX4_checkSide_12 : decode cX4_checkSide 12 = .ok (.dup, 1) := by decide +kernel
theorem dX4_checkSide_13 : decode cX4_checkSide 13 = .ok (.invokespecial 78, 3) := by decide +kernel
theorem dX4_checkSide_16 : decode cX4_checkSide 16 = .ok (.athrow, 1) := by decide +kernel
theorem dX4_checkSide_17 : decode cX4_checkSide 17 = .ok (.return_, 1) := by decide +kernel
set_option maxRecDepth 20000 in
theorem ggX4_checkCanSend_X4_sideOf : GoodIn wsX4_checkCanSend wsX4_sideOf := goodIn_r _ [7, 8, 9, 24, 25, 26] (by decide +kernel) (by decide +kernel)
set_option maxRecDepth 20000 in
theorem gX4_checkCanSend_X4_sideOf : GoodIn wsX4_checkCanSend (wsV RX4 27 RX4 yX4_sideOf wsX4_sideOf) := goodIn_app (goodIn_of _ (by decide +kernel)) ggX4_checkCanSend_X4_sideOf
set_option maxRecDepth 20000 in
theorem ggX4_checkCanSend_X2_isFull : GoodIn wsX4_checkCanSend wsX2_isFull := goodIn_r _ [14, 15, 27, 28, 29, 30, 31, 32] (by decide +kernel) (by decide +kernel)
set_option maxRecDepth 20000 in
theorem gX4_checkCanSend_X2_isFull : GoodIn wsX4_checkCanSend (wsV RX4 38 RX2 yX2_isFull wsX2_isFull) := goodIn_app (goodIn_of _ (by decide +kernel)) ggX4_checkCanSend_X2_isFull
theorem dX4_checkCanSend_0 : decode cX4_checkCanSend 0 = .ok (.aload_n 0, 1) := by decide +kernel
theorem dX4_checkCanSend_1 : decode cX4_checkCanSend 1 = .ok (.iload_n 1, 1) := by decide +kernel
theorem dX4_checkCanSend_2 : decode cX4_checkCanSend 2 = .ok (.invokevirtual 27, 3) := by decide +kernel
theorem dX4_checkCanSend_5 : decode cX4_checkCanSend 5 = .ok (.astore_n 2, 1) := by decide +kernel
theorem dX4_checkCanSend_6 : decode cX4_checkCanSend 6 = .ok (.aload_n 2, 1) := by decide +kernel
theorem dX4_checkCanSend_7 : decode cX4_checkCanSend 7 = .ok (.getfield 31, 3) := by decide +kernel
theorem dX4_checkCanSend_10 : decode cX4_checkCanSend 10 = .ok (.iconst 2, 1) := by decide +kernel
theorem dX4_checkCanSend_11 : decode cX4_checkCanSend 11 = .ok (.if_icmp .ne 13, 3) := by decide +kernel
theorem dX4_checkCanSend_14 : decode cX4_checkCanSend 14 = .ok (.aload_n 2, 1) := by decide +kernel
theorem dX4_checkCanSend_15 : decode cX4_checkCanSend 15 = .ok (.getfield 34, 3) := by decide +kernel
theorem dX4_checkCanSend_18 : decode cX4_checkCanSend 18 = .ok (.invokevirtual 38, 3) := by decide +kernel
theorem dX4_checkCanSend_21 : decode cX4_checkCanSend 21 = .ok (.ifCond .eq 11, 3) := by decide +kernel
theorem dX4_checkCanSend_24 : decode cX4_checkCanSend 24 = .ok (.new 44, 3) := by decide +kernel
theorem dX4_checkCanSend_27 : decode cX4_checkCanSend 27 = .ok (.dup, 1) := by decide +kernel
theorem dX4_checkCanSend_28 : decode cX4_checkCanSend 28 = .ok (.invokespecial 46, 3) := by decide +kernel
theorem dX4_checkCanSend_31 : decode cX4_checkCanSend 31 = .ok (.athrow, 1) := by decide +kernel
theorem dX4_checkCanSend_32 : decode cX4_checkCanSend 32 = .ok (.return_, 1) := by decide +kernel
theorem dX4_sideOf_0 : decode cX4_sideOf 0 = .ok (.iload_n 1, 1) := by decide +kernel
theorem dX4_sideOf_1 : decode cX4_sideOf 1 = .ok (.ifCond .ne 10, 3) := by decide +kernel
theorem dX4_sideOf_4 : decode cX4_sideOf 4 = .ok (.aload_n 0, 1) := by decide +kernel
theorem dX4_sideOf_5 : decode cX4_sideOf 5 = .ok (.getfield 10, 3) := by decide +kernel
theorem dX4_sideOf_8 : decode cX4_sideOf 8 = .ok (.goto 7, 3) := by decide +kernel
theorem dX4_sideOf_11 : decode cX4_sideOf 11 = .ok (.aload_n 0, 1) := by decide +kernel
theorem dX4_sideOf_12 : decode cX4_sideOf 12 = .ok (.getfield 16, 3) := by decide +kernel
theorem dX4_sideOf_15 : decode cX4_sideOf 15 = .ok (.areturn, 1) := by decide +kernel
theorem dX4_otherOf_0 : decode cX4_otherOf 0 = .ok (.iload_n 1, 1) := by decide +kernel
theorem dX4_otherOf_1 : decode cX4_otherOf 1 = .ok (.ifCond .ne 10, 3) := by decide +kernel
theorem dX4_otherOf_4 : decode cX4_otherOf 4 = .ok (.aload_n 0, 1) := by decide +kernel
theorem dX4_otherOf_5 : decode cX4_otherOf 5 = .ok (.getfield 16, 3) := by decide +kernel
theorem dX4_otherOf_8 : decode cX4_otherOf 8 = .ok (.goto 7, 3) := by decide +kernel
theorem dX4_otherOf_11 : decode cX4_otherOf 11 = .ok (.aload_n 0, 1) := by decide +kernel
theorem dX4_otherOf_12 : decode cX4_otherOf 12 = .ok (.getfield 10, 3) := by decide +kernel
theorem dX4_otherOf_15 : decode cX4_otherOf 15 = .ok (.areturn, 1) := by decide +kernel
theorem dX4_emptyWires_0 : decode cX4_emptyWires 0 = .ok (.aload_n 0, 1) := by decide +kernel
theorem dX4_emptyWires_1 : decode cX4_emptyWires 1 = .ok (.getfield 10, 3) := by decide +kernel
theorem dX4_emptyWires_4 : decode cX4_emptyWires 4 = .ok (.getfield 110, 3) := by decide +kernel
theorem dX4_emptyWires_7 : decode cX4_emptyWires 7 = .ok (.iconst 0, 1) := by decide +kernel
theorem dX4_emptyWires_8 : decode cX4_emptyWires 8 = .ok (.putfield 114, 3) := by decide +kernel
theorem dX4_emptyWires_11 : decode cX4_emptyWires 11 = .ok (.aload_n 0, 1) := by decide +kernel
theorem dX4_emptyWires_12 : decode cX4_emptyWires 12 = .ok (.getfield 16, 3) := by decide +kernel
theorem dX4_emptyWires_15 : decode cX4_emptyWires 15 = .ok (.getfield 110, 3) := by decide +kernel
theorem dX4_emptyWires_18 : decode cX4_emptyWires 18 = .ok (.iconst 0, 1) := by decide +kernel
theorem dX4_emptyWires_19 : decode cX4_emptyWires 19 = .ok (.putfield 114, 3) := by decide +kernel
theorem dX4_emptyWires_22 : decode cX4_emptyWires 22 = .ok (.return_, 1) := by decide +kernel
set_option maxRecDepth 20000 in
theorem ggX4_messageAt_X4_checkSide : GoodIn wsX4_messageAt wsX4_checkSide := goodIn_ca (goodIn_r _ [7, 1, 2] (by decide +kernel) (by decide +kernel)) (goodIn_sub (fun _ h => List.mem_cons_of_mem _ (List.mem_append_right _ h)) (by decide +kernel))
set_option maxRecDepth 20000 in
theorem gX4_messageAt_X4_checkSide : GoodIn wsX4_messageAt (wsV RX4 23 RX4 yX4_checkSide wsX4_checkSide) := goodIn_app (goodIn_of _ (by decide +kernel)) ggX4_messageAt_X4_checkSide
set_option maxRecDepth 20000 in
theorem ggX4_messageAt_X4_sideOf : GoodIn wsX4_messageAt wsX4_sideOf := goodIn_r _ [11, 12, 13, 30, 31, 32] (by decide +kernel) (by decide +kernel)
set_option maxRecDepth 20000 in
theorem gX4_messageAt_X4_sideOf : GoodIn wsX4_messageAt (wsV RX4 27 RX4 yX4_sideOf wsX4_sideOf) := goodIn_app (goodIn_of _ (by decide +kernel)) ggX4_messageAt_X4_sideOf
set_option maxRecDepth 20000 in
theorem ggX4_messageAt_X3_messageOn : GoodIn wsX4_messageAt wsX3_messageOn := goodIn_r _ [18, 19, 28, 29] (by decide +kernel) (by decide +kernel)
set_option maxRecDepth 20000 in
theorem gX4_messageAt_X3_messageOn : GoodIn wsX4_messageAt (wsV RX4 160 RX3 yX3_messageOn wsX3_messageOn) := goodIn_app (goodIn_of _ (by decide +kernel)) ggX4_messageAt_X3_messageOn
theorem dX4_messageAt_0 : decode cX4_messageAt 0 = .ok (.aload_n 0, 1) := by decide +kernel
theorem dX4_messageAt_1 : decode cX4_messageAt 1 = .ok (.iload_n 1, 1) := by decide +kernel
theorem dX4_messageAt_2 : decode cX4_messageAt 2 = .ok (.invokevirtual 23, 3) := by decide +kernel
theorem dX4_messageAt_5 : decode cX4_messageAt 5 = .ok (.aload_n 0, 1) := by decide +kernel
theorem dX4_messageAt_6 : decode cX4_messageAt 6 = .ok (.iload_n 1, 1) := by decide +kernel
theorem dX4_messageAt_7 : decode cX4_messageAt 7 = .ok (.invokevirtual 27, 3) := by decide +kernel
theorem dX4_messageAt_10 : decode cX4_messageAt 10 = .ok (.getfield 110, 3) := by decide +kernel
theorem dX4_messageAt_13 : decode cX4_messageAt 13 = .ok (.astore_n 3, 1) := by decide +kernel
theorem dX4_messageAt_14 : decode cX4_messageAt 14 = .ok (.iload_n 2, 1) := by decide +kernel
theorem dX4_messageAt_15 : decode cX4_messageAt 15 = .ok (.ifCond .lt 11, 3) := by decide +kernel
theorem dX4_messageAt_18 : decode cX4_messageAt 18 = .ok (.iload_n 2, 1) := by decide +kernel
theorem dX4_messageAt_19 : decode cX4_messageAt 19 = .ok (.aload_n 3, 1) := by decide +kernel
theorem dX4_messageAt_20 : decode cX4_messageAt 20 = .ok (.getfield 114, 3) := by decide +kernel
theorem dX4_messageAt_23 : decode cX4_messageAt 23 = .ok (.if_icmp .lt 11, 3) := by decide +kernel
theorem dX4_messageAt_26 : decode cX4_messageAt 26 = .ok (.new 76, 3) := by decide +kernel
theorem dX4_messageAt_29 : decode cX4_messageAt 29 = .ok (.dup, 1) := by decide +kernel
theorem dX4_messageAt_30 : decode cX4_messageAt 30 = .ok (.invokespecial 78, 3) := by decide +kernel
theorem dX4_messageAt_33 : decode cX4_messageAt 33 = .ok (.athrow, 1) := by decide +kernel
theorem dX4_messageAt_34 : decode cX4_messageAt 34 = .ok (.aload_n 3, 1) := by decide +kernel
theorem dX4_messageAt_35 : decode cX4_messageAt 35 = .ok (.iload_n 2, 1) := by decide +kernel
theorem dX4_messageAt_36 : decode cX4_messageAt 36 = .ok (.invokevirtual 160, 3) := by decide +kernel
theorem dX4_messageAt_39 : decode cX4_messageAt 39 = .ok (.ireturn, 1) := by decide +kernel
set_option maxRecDepth 20000 in
theorem ggX4_takeFirst_X4_checkSide : GoodIn wsX4_takeFirst wsX4_checkSide := goodIn_ca (goodIn_r _ [7, 8, 9] (by decide +kernel) (by decide +kernel)) (goodIn_sub (fun _ h => List.mem_cons_of_mem _ (List.mem_append_right _ h)) (by decide +kernel))
set_option maxRecDepth 20000 in
theorem gX4_takeFirst_X4_checkSide : GoodIn wsX4_takeFirst (wsV RX4 23 RX4 yX4_checkSide wsX4_checkSide) := goodIn_app (goodIn_of _ (by decide +kernel)) ggX4_takeFirst_X4_checkSide
set_option maxRecDepth 20000 in
theorem ggX4_takeFirst_X4_sideOf : GoodIn wsX4_takeFirst wsX4_sideOf := goodIn_r _ [13, 14, 15, 37, 38, 39] (by decide +kernel) (by decide +kernel)
set_option maxRecDepth 20000 in
theorem gX4_takeFirst_X4_sideOf : GoodIn wsX4_takeFirst (wsV RX4 27 RX4 yX4_sideOf wsX4_sideOf) := goodIn_app (goodIn_of _ (by decide +kernel)) ggX4_takeFirst_X4_sideOf
set_option maxRecDepth 20000 in
theorem ggX4_takeFirst_X3_removeFirst : GoodIn wsX4_takeFirst wsX3_removeFirst := goodIn_r _ [20, 21, 22, 23, 24, 25, 19, 26, 35, 36] (by decide +kernel) (by decide +kernel)
set_option maxRecDepth 20000 in
theorem gX4_takeFirst_X3_removeFirst : GoodIn wsX4_takeFirst (wsV RX4 163 RX3 yX3_removeFirst wsX3_removeFirst) := goodIn_app (goodIn_of _ (by decide +kernel)) ggX4_takeFirst_X3_removeFirst
theorem dX4_takeFirst_0 : decode cX4_takeFirst 0 = .ok (.aload_n 0, 1) := by decide +kernel
theorem dX4_takeFirst_1 : decode cX4_takeFirst 1 = .ok (.iload_n 1, 1) := by decide +kernel
theorem dX4_takeFirst_2 : decode cX4_takeFirst 2 = .ok (.invokevirtual 23, 3) := by decide +kernel
theorem dX4_takeFirst_5 : decode cX4_takeFirst 5 = .ok (.aload_n 0, 1) := by decide +kernel
theorem dX4_takeFirst_6 : decode cX4_takeFirst 6 = .ok (.iload_n 1, 1) := by decide +kernel
theorem dX4_takeFirst_7 : decode cX4_takeFirst 7 = .ok (.invokevirtual 27, 3) := by decide +kernel
theorem dX4_takeFirst_10 : decode cX4_takeFirst 10 = .ok (.getfield 110, 3) := by decide +kernel
theorem dX4_takeFirst_13 : decode cX4_takeFirst 13 = .ok (.astore_n 2, 1) := by decide +kernel
theorem dX4_takeFirst_14 : decode cX4_takeFirst 14 = .ok (.aload_n 2, 1) := by decide +kernel
theorem dX4_takeFirst_15 : decode cX4_takeFirst 15 = .ok (.getfield 114, 3) := by decide +kernel
theorem dX4_takeFirst_18 : decode cX4_takeFirst 18 = .ok (.ifCond .ne 11, 3) := by decide +kernel
theorem dX4_takeFirst_21 : decode cX4_takeFirst 21 = .ok (.new 44, 3) := by decide +kernel
theorem dX4_takeFirst_24 : decode cX4_takeFirst 24 = .ok (.dup, 1) := by decide +kernel
theorem dX4_takeFirst_25 : decode cX4_takeFirst 25 = .ok (.invokespecial 46, 3) := by decide +kernel
theorem dX4_takeFirst_28 : decode cX4_takeFirst 28 = .ok (.athrow, 1) := by decide +kernel
theorem dX4_takeFirst_29 : decode cX4_takeFirst 29 = .ok (.aload_n 2, 1) := by decide +kernel
theorem dX4_takeFirst_30 : decode cX4_takeFirst 30 = .ok (.invokevirtual 163, 3) := by decide +kernel
theorem dX4_takeFirst_33 : decode cX4_takeFirst 33 = .ok (.ireturn, 1) := by decide +kernel
set_option maxRecDepth 20000 in
theorem ggX4_putOnWire_X4_sideOf : GoodIn wsX4_putOnWire wsX4_sideOf := goodIn_r _ [6, 7, 8, 20, 21, 22] (by decide +kernel) (by decide +kernel)
set_option maxRecDepth 20000 in
theorem gX4_putOnWire_X4_sideOf : GoodIn wsX4_putOnWire (wsV RX4 27 RX4 yX4_sideOf wsX4_sideOf) := goodIn_app (goodIn_of _ (by decide +kernel)) ggX4_putOnWire_X4_sideOf
set_option maxRecDepth 20000 in
theorem ggX4_putOnWire_X4_otherOf : GoodIn wsX4_putOnWire wsX4_otherOf := goodIn_r _ [12, 8, 7, 20, 21, 22] (by decide +kernel) (by decide +kernel)
set_option maxRecDepth 20000 in
theorem gX4_putOnWire_X4_otherOf : GoodIn wsX4_putOnWire (wsV RX4 149 RX4 yX4_otherOf wsX4_otherOf) := goodIn_app (goodIn_of _ (by decide +kernel)) ggX4_putOnWire_X4_otherOf
set_option maxRecDepth 20000 in
theorem ggX4_putOnWire_X3_put : GoodIn wsX4_putOnWire wsX3_put := goodIn_r _ [17, 18, 19, 31, 32] (by decide +kernel) (by decide +kernel)
set_option maxRecDepth 20000 in
theorem gX4_putOnWire_X3_put : GoodIn wsX4_putOnWire (wsV RX4 169 RX3 yX3_put wsX3_put) := goodIn_app (goodIn_of _ (by decide +kernel)) ggX4_putOnWire_X3_put
theorem dX4_putOnWire_0 : decode cX4_putOnWire 0 = .ok (.aload_n 0, 1) := by decide +kernel
theorem dX4_putOnWire_1 : decode cX4_putOnWire 1 = .ok (.iload_n 1, 1) := by decide +kernel
theorem dX4_putOnWire_2 : decode cX4_putOnWire 2 = .ok (.invokevirtual 27, 3) := by decide +kernel
theorem dX4_putOnWire_5 : decode cX4_putOnWire 5 = .ok (.aload_n 0, 1) := by decide +kernel
theorem dX4_putOnWire_6 : decode cX4_putOnWire 6 = .ok (.getfield 19, 3) := by decide +kernel
theorem dX4_putOnWire_9 : decode cX4_putOnWire 9 = .ok (.putfield 166, 3) := by decide +kernel
theorem dX4_putOnWire_12 : decode cX4_putOnWire 12 = .ok (.aload_n 0, 1) := by decide +kernel
theorem dX4_putOnWire_13 : decode cX4_putOnWire 13 = .ok (.iload_n 1, 1) := by decide +kernel
theorem dX4_putOnWire_14 : decode cX4_putOnWire 14 = .ok (.invokevirtual 149, 3) := by decide +kernel
theorem dX4_putOnWire_17 : decode cX4_putOnWire 17 = .ok (.getfield 110, 3) := by decide +kernel
theorem dX4_putOnWire_20 : decode cX4_putOnWire 20 = .ok (.iload_n 2, 1) := by decide +kernel
theorem dX4_putOnWire_21 : decode cX4_putOnWire 21 = .ok (.invokevirtual 169, 3) := by decide +kernel
theorem dX4_putOnWire_24 : decode cX4_putOnWire 24 = .ok (.return_, 1) := by decide +kernel
set_option maxRecDepth 20000 in
theorem ggX4_sendNew_X4_sideOf : GoodIn wsX4_sendNew wsX4_sideOf := goodIn_r _ [5, 6, 7, 53, 54, 55] (by decide +kernel) (by decide +kernel)
set_option maxRecDepth 20000 in
theorem gX4_sendNew_X4_sideOf : GoodIn wsX4_sendNew (wsV RX4 27 RX4 yX4_sideOf wsX4_sideOf) := goodIn_app (goodIn_of _ (by decide +kernel)) ggX4_sendNew_X4_sideOf
set_option maxRecDepth 20000 in
theorem ggX4_sendNew_X2_isFull : GoodIn wsX4_sendNew wsX2_isFull := goodIn_r _ [12, 13, 47, 48, 49, 50, 51, 52] (by decide +kernel) (by decide +kernel)
set_option maxRecDepth 20000 in
theorem gX4_sendNew_X2_isFull : GoodIn wsX4_sendNew (wsV RX4 38 RX2 yX2_isFull wsX2_isFull) := goodIn_app (goodIn_of _ (by decide +kernel)) ggX4_sendNew_X2_isFull
set_option maxRecDepth 20000 in
theorem ggX4_sendNew_X0_of : GoodIn wsX4_sendNew wsX0_of := goodIn_r _ [17] (by decide +kernel) (by decide +kernel)
set_option maxRecDepth 20000 in
theorem gX4_sendNew_X0_of : GoodIn wsX4_sendNew (va_wsS RX4 172 yX0_of wsX0_of) := goodIn_app (goodIn_of _ (by decide +kernel)) ggX4_sendNew_X0_of
set_option maxRecDepth 20000 in
theorem ggX4_sendNew_X2_keep : GoodIn wsX4_sendNew wsX2_keep := goodIn_r _ [21, 13, 22, 47, 48, 49, 50, 51, 52] (by decide +kernel) (by decide +kernel)
set_option maxRecDepth 20000 in
theorem gX4_sendNew_X2_keep : GoodIn wsX4_sendNew (wsV RX4 175 RX2 yX2_keep wsX2_keep) := goodIn_app (goodIn_of _ (by decide +kernel)) ggX4_sendNew_X2_keep
set_option maxRecDepth 20000 in
theorem ggX4_sendNew_X4_putOnWire : GoodIn wsX4_sendNew wsX4_putOnWire := goodIn_r _ [26, 27, 1, 2, 3, 4, 5, 6, 7, 28, 29, 30, 31, 32, 33, 34, 35, 36, 37, 38, 53, 54, 55, 39, 40, 41, 42, 43, 44, 45, 46, 56, 57] (by decide +kernel) (by decide +kernel)
set_option maxRecDepth 20000 in
theorem gX4_sendNew_X4_putOnWire : GoodIn wsX4_sendNew (wsV RX4 178 RX4 yX4_putOnWire wsX4_putOnWire) := goodIn_app (goodIn_of _ (by decide +kernel)) ggX4_sendNew_X4_putOnWire
theorem dX4_sendNew_0 : decode cX4_sendNew 0 = .ok (.aload_n 0, 1) := by decide +kernel
theorem dX4_sendNew_1 : decode cX4_sendNew 1 = .ok (.iload_n 1, 1) := by decide +kernel
theorem dX4_sendNew_2 : decode cX4_sendNew 2 = .ok (.invokevirtual 27, 3) := by decide +kernel
theorem dX4_sendNew_5 : decode cX4_sendNew 5 = .ok (.getfield 34, 3) := by decide +kernel
theorem dX4_sendNew_8 : decode cX4_sendNew 8 = .ok (.astore 5, 2) := by decide +kernel
theorem dX4_sendNew_10 : decode cX4_sendNew 10 = .ok (.aload 5, 2) := by decide +kernel
theorem dX4_sendNew_12 : decode cX4_sendNew 12 = .ok (.invokevirtual 38, 3) := by decide +kernel
theorem dX4_sendNew_15 : decode cX4_sendNew 15 = .ok (.ifCond .eq 5, 3) := by decide +kernel
theorem dX4_sendNew_18 : decode cX4_sendNew 18 = .ok (.iconst (-1), 1) := by decide +kernel
theorem dX4_sendNew_19 : decode cX4_sendNew 19 = .ok (.ireturn, 1) := by decide +kernel
theorem dX4_sendNew_20 : decode cX4_sendNew 20 = .ok (.aload 5, 2) := by decide +kernel
theorem dX4_sendNew_22 : decode cX4_sendNew 22 = .ok (.getfield 63, 3) := by decide +kernel
theorem dX4_sendNew_25 : decode cX4_sendNew 25 = .ok (.iconst 1, 1) := by decide +kernel
theorem dX4_sendNew_26 : decode cX4_sendNew 26 = .ok (.iadd, 1) := by decide +kernel
theorem dX4_sendNew_27 : decode cX4_sendNew 27 = .ok (.istore 6, 2) := by decide +kernel
theorem dX4_sendNew_29 : decode cX4_sendNew 29 = .ok (.iload 6, 2) := by decide +kernel
theorem dX4_sendNew_31 : decode cX4_sendNew 31 = .ok (.iload_n 2, 1) := by decide +kernel
theorem dX4_sendNew_32 : decode cX4_sendNew 32 = .ok (.iload_n 3, 1) := by decide +kernel
theorem dX4_sendNew_33 : decode cX4_sendNew 33 = .ok (.iload 4, 2) := by decide +kernel
theorem dX4_sendNew_35 : decode cX4_sendNew 35 = .ok (.invokestatic 172, 3) := by decide +kernel
theorem dX4_sendNew_38 : decode cX4_sendNew 38 = .ok (.istore 7, 2) := by decide +kernel
theorem dX4_sendNew_40 : decode cX4_sendNew 40 = .ok (.aload 5, 2) := by decide +kernel
theorem dX4_sendNew_42 : decode cX4_sendNew 42 = .ok (.iload 7, 2) := by decide +kernel
theorem dX4_sendNew_44 : decode cX4_sendNew 44 = .ok (.invokevirtual 175, 3) := by decide +kernel
theorem dX4_sendNew_47 : decode cX4_sendNew 47 = .ok (.aload_n 0, 1) := by decide +kernel
theorem dX4_sendNew_48 : decode cX4_sendNew 48 = .ok (.iload_n 1, 1) := by decide +kernel
theorem dX4_sendNew_49 : decode cX4_sendNew 49 = .ok (.iload 7, 2) := by decide +kernel
theorem dX4_sendNew_51 : decode cX4_sendNew 51 = .ok (.invokevirtual 178, 3) := by decide +kernel
theorem dX4_sendNew_54 : decode cX4_sendNew 54 = .ok (.iload 6, 2) := by decide +kernel
theorem dX4_sendNew_56 : decode cX4_sendNew 56 = .ok (.ireturn, 1) := by decide +kernel
set_option maxRecDepth 20000 in
theorem ggX4_receive_X4_sideOf : GoodIn wsX4_receive wsX4_sideOf := goodIn_r _ [5, 6, 7, 135, 136, 137] (by decide +kernel) (by decide +kernel)
set_option maxRecDepth 20000 in
theorem gX4_receive_X4_sideOf : GoodIn wsX4_receive (wsV RX4 27 RX4 yX4_sideOf wsX4_sideOf) := goodIn_app (goodIn_of _ (by decide +kernel)) ggX4_receive_X4_sideOf
set_option maxRecDepth 20000 in
theorem ggX4_receive_X0_kindOf : GoodIn wsX4_receive wsX0_kindOf := goodIn_r _ [11] (by decide +kernel) (by decide +kernel)
set_option maxRecDepth 20000 in
theorem gX4_receive_X0_kindOf : GoodIn wsX4_receive (va_wsS RX4 97 yX0_kindOf wsX0_kindOf) := goodIn_app (goodIn_of _ (by decide +kernel)) ggX4_receive_X0_kindOf
set_option maxRecDepth 20000 in
theorem ggX4_receive_X0_numberOf : GoodIn wsX4_receive wsX0_numberOf := goodIn_r _ [14] (by decide +kernel) (by decide +kernel)
set_option maxRecDepth 20000 in
theorem gX4_receive_X0_numberOf : GoodIn wsX4_receive (va_wsS RX4 123 yX0_numberOf wsX0_numberOf) := goodIn_app (goodIn_of _ (by decide +kernel)) ggX4_receive_X0_numberOf
set_option maxRecDepth 20000 in
theorem ggX4_receive_X4_refuseLow : GoodIn wsX4_receive wsX4_refuseLow := goodIn_r _ [18, 19, 20, 21, 10, 22, 23, 24, 25, 26, 27, 28, 29, 121, 122, 123, 124, 125, 126, 127, 128, 129, 130, 131, 132, 133, 134] (by decide +kernel) (by decide +kernel)
set_option maxRecDepth 20000 in
theorem gX4_receive_X4_refuseLow : GoodIn wsX4_receive (wsV RX4 181 RX4 yX4_refuseLow wsX4_refuseLow) := goodIn_app (goodIn_of _ (by decide +kernel)) ggX4_receive_X4_refuseLow
set_option maxRecDepth 20000 in
theorem ggX4_receive_X0_toldBy : GoodIn wsX4_receive wsX0_toldBy := goodIn_r _ [32] (by decide +kernel) (by decide +kernel)
set_option maxRecDepth 20000 in
theorem gX4_receive_X0_toldBy : GoodIn wsX4_receive (va_wsS RX4 83 yX0_toldBy wsX0_toldBy) := goodIn_app (goodIn_of _ (by decide +kernel)) ggX4_receive_X0_toldBy
set_option maxRecDepth 20000 in
theorem ggX4_receive_X4_answerLogon : GoodIn wsX4_receive wsX4_answerLogon := goodIn_r _ [36, 37, 1, 2, 3, 4, 5, 6, 7, 20, 21, 10, 22, 38, 39, 40, 41, 42, 43, 44, 45, 46, 47, 48, 49, 50, 51, 52, 53, 54, 55, 56, 57, 58, 59, 60, 61, 62, 63, 64, 65, 66, 67, 68, 69, 70, 71, 121, 122, 123, 124, 125, 126, 127, 128, 135, 136, 137, 129, 130, 131, 132, 133, 134, 138, 139] (by decide +kernel) (by decide +kernel)
set_option maxRecDepth 20000 in
theorem gX4_receive_X4_answerLogon : GoodIn wsX4_receive (wsV RX4 185 RX4 yX4_answerLogon wsX4_answerLogon) := goodIn_app (goodIn_of _ (by decide +kernel)) ggX4_receive_X4_answerLogon
set_option maxRecDepth 20000 in
theorem ggX4_receive_X4_answerResend : GoodIn wsX4_receive wsX4_answerResend := goodIn_r _ [75, 76, 77, 78, 79, 19, 1, 2, 3, 4, 5, 6, 7, 80, 81, 82, 45, 83, 47, 84, 85, 86, 87, 55, 88, 9, 10, 11, 89, 90, 91, 92, 48, 49, 50, 56, 57, 58, 59, 60, 61, 62, 63, 64, 65, 66, 67, 68, 69, 70, 71, 93, 121, 122, 123, 124, 125, 126, 127, 128, 129, 130, 131, 132, 133, 134, 135, 136, 137, 138, 139] (by decide +kernel) (by decide +kernel)
set_option maxRecDepth 20000 in
theorem gX4_receive_X4_answerResend : GoodIn wsX4_receive (wsV RX4 188 RX4 yX4_answerResend wsX4_answerResend) := goodIn_app (goodIn_of _ (by decide +kernel)) ggX4_receive_X4_answerResend
set_option maxRecDepth 20000 in
theorem ggX4_receive_X4_handle : GoodIn wsX4_receive wsX4_handle := goodIn_r _ [97, 1, 2, 3, 4, 5, 6, 7, 8, 9, 10, 11, 38, 39, 40, 41, 42, 43, 44, 45, 46, 47, 48, 49, 50, 51, 52, 53, 54, 55, 56, 57, 58, 59, 60, 61, 62, 63, 64, 65, 66, 67, 68, 69, 70, 71, 23, 24, 25, 26, 27, 28, 29, 98, 99, 100, 101, 102, 30, 31, 32, 20, 21, 22, 103, 104, 105, 106, 107, 108, 109, 110, 111, 112, 113, 114, 115, 116, 121, 122, 123, 124, 125, 126, 127, 128, 135, 136, 137, 129, 130, 131, 132, 133, 134, 138, 139] (by decide +kernel) (by decide +kernel)
set_option maxRecDepth 20000 in
theorem gX4_receive_X4_handle : GoodIn wsX4_receive (wsV RX4 191 RX4 yX4_handle wsX4_handle) := goodIn_app (goodIn_of _ (by decide +kernel)) ggX4_receive_X4_handle
set_option maxRecDepth 20000 in
theorem ggX4_receive_X4_askForResend : GoodIn wsX4_receive wsX4_askForResend := goodIn_r _ [120, 60, 1, 2, 3, 4, 5, 6, 7, 38, 39, 40, 41, 42, 43, 44, 45, 46, 47, 48, 49, 10, 50, 51, 52, 53, 54, 55, 56, 57, 58, 59, 61, 62, 63, 64, 65, 66, 67, 68, 69, 70, 71, 121, 122, 123, 124, 125, 126, 127, 128, 129, 130, 131, 132, 133, 134, 135, 136, 137, 138, 139] (by decide +kernel) (by decide +kernel)
set_option maxRecDepth 20000 in
theorem gX4_receive_X4_askForResend : GoodIn wsX4_receive (wsV RX4 194 RX4 yX4_askForResend wsX4_askForResend) := goodIn_app (goodIn_of _ (by decide +kernel)) ggX4_receive_X4_askForResend
theorem dX4_receive_0 : decode cX4_receive 0 = .ok (.aload_n 0, 1) := by decide +kernel
theorem dX4_receive_1 : decode cX4_receive 1 = .ok (.iload_n 1, 1) := by decide +kernel
theorem dX4_receive_2 : decode cX4_receive 2 = .ok (.invokevirtual 27, 3) := by decide +kernel
theorem dX4_receive_5 : decode cX4_receive 5 = .ok (.astore_n 3, 1) := by decide +kernel
theorem dX4_receive_6 : decode cX4_receive 6 = .ok (.iload_n 2, 1) := by decide +kernel
theorem dX4_receive_7 : decode cX4_receive 7 = .ok (.invokestatic 97, 3) := by decide +kernel
theorem dX4_receive_10 : decode cX4_receive 10 = .ok (.istore 4, 2) := by decide +kernel
theorem dX4_receive_12 : decode cX4_receive 12 = .ok (.iload 4, 2) := by decide +kernel
theorem dX4_receive_14 : decode cX4_receive 14 = .ok (.ifCond .eq 12, 3) := by decide +kernel
theorem dX4_receive_17 : decode cX4_receive 17 = .ok (.aload_n 3, 1) := by decide +kernel
theorem dX4_receive_18 : decode cX4_receive 18 = .ok (.getfield 31, 3) := by decide +kernel
theorem dX4_receive_21 : decode cX4_receive 21 = .ok (.iconst 2, 1) := by decide +kernel
theorem dX4_receive_22 : decode cX4_receive 22 = .ok (.if_icmp .eq 4, 3) := by decide +kernel
theorem dX4_receive_25 : decode cX4_receive 25 = .ok (.return_, 1) := by decide +kernel
theorem dX4_receive_26 : decode cX4_receive 26 = .ok (.iload_n 2, 1) := by decide +kernel
theorem dX4_receive_27 : decode cX4_receive 27 = .ok (.invokestatic 123, 3) := by decide +kernel
theorem dX4_receive_30 : decode cX4_receive 30 = .ok (.istore 5, 2) := by decide +kernel
theorem dX4_receive_32 : decode cX4_receive 32 = .ok (.iload 5, 2) := by decide +kernel
theorem dX4_receive_34 : decode cX4_receive 34 = .ok (.aload_n 3, 1) := by decide +kernel
theorem dX4_receive_35 : decode cX4_receive 35 = .ok (.getfield 34, 3) := by decide +kernel
theorem dX4_receive_38 : decode cX4_receive 38 = .ok (.getfield 103, 3) := by decide +kernel
theorem dX4_receive_41 : decode cX4_receive 41 = .ok (.if_icmp .ge 10, 3) := by decide +kernel
theorem dX4_receive_44 : decode cX4_receive 44 = .ok (.aload_n 0, 1) := by decide +kernel
theorem dX4_receive_45 : decode cX4_receive 45 = .ok (.aload_n 3, 1) := by decide +kernel
theorem dX4_receive_46 : decode cX4_receive 46 = .ok (.iload_n 2, 1) := by decide +kernel
theorem dX4_receive_47 : decode cX4_receive 47 = .ok (.invokevirtual 181, 3) := by decide +kernel
theorem dX4_receive_50 : decode cX4_receive 50 = .ok (.return_, 1) := by decide +kernel
theorem dX4_receive_51 : decode cX4_receive 51 = .ok (.iload 5, 2) := by decide +kernel
theorem dX4_receive_53 : decode cX4_receive 53 = .ok (.aload_n 3, 1) := by decide +kernel
theorem dX4_receive_54 : decode cX4_receive 54 = .ok (.getfield 34, 3) := by decide +kernel
theorem dX4_receive_57 : decode cX4_receive 57 = .ok (.getfield 103, 3) := by decide +kernel
theorem dX4_receive_60 : decode cX4_receive 60 = .ok (.if_icmp .le 7, 3) := by decide +kernel
theorem dX4_receive_63 : decode cX4_receive 63 = .ok (.iconst 1, 1) := by decide +kernel
theorem dX4_receive_64 : decode cX4_receive 64 = .ok (.goto 4, 3) := by decide +kernel
theorem dX4_receive_67 : decode cX4_receive 67 = .ok (.iconst 0, 1) := by decide +kernel
theorem dX4_receive_68 : decode cX4_receive 68 = .ok (.istore 6, 2) := by decide +kernel
theorem dX4_receive_70 : decode cX4_receive 70 = .ok (.iload 6, 2) := by decide +kernel
theorem dX4_receive_72 : decode cX4_receive 72 = .ok (.ifCond .ne 32, 3) := by decide +kernel
theorem dX4_receive_75 : decode cX4_receive 75 = .ok (.aload_n 3, 1) := by decide +kernel
theorem dX4_receive_76 : decode cX4_receive 76 = .ok (.iconst 0, 1) := by decide +kernel
theorem dX4_receive_77 : decode cX4_receive 77 = .ok (.putfield 106, 3) := by decide +kernel
theorem dX4_receive_80 : decode cX4_receive 80 = .ok (.aload_n 3, 1) := by decide +kernel
theorem dX4_receive_81 : decode cX4_receive 81 = .ok (.getfield 34, 3) := by decide +kernel
theorem dX4_receive_84 : decode cX4_receive 84 = .ok (.iload 4, 2) := by decide +kernel
theorem dX4_receive_86 : decode cX4_receive 86 = .ok (.iconst 4, 1) := by decide +kernel
theorem dX4_receive_87 : decode cX4_receive 87 = .ok (.if_icmp .ne 10, 3) := by decide +kernel
theorem dX4_receive_90 : decode cX4_receive 90 = .ok (.iload_n 2, 1) := by decide +kernel
theorem dX4_receive_91 : decode cX4_receive 91 = .ok (.invokestatic 83, 3) := by decide +kernel
theorem dX4_receive_94 : decode cX4_receive 94 = .ok (.goto 7, 3) := by decide +kernel
theorem dX4_receive_97 : decode cX4_receive 97 = .ok (.iload 5, 2) := by decide +kernel
theorem dX4_receive_99 : decode cX4_receive 99 = .ok (.iconst 1, 1) := by decide +kernel
theorem dX4_receive_100 : decode cX4_receive 100 = .ok (.iadd, 1) := by decide +kernel
theorem dX4_receive_101 : decode cX4_receive 101 = .ok (.putfield 103, 3) := by decide +kernel
theorem dX4_receive_104 : decode cX4_receive 104 = .ok (.iload 4, 2) := by decide +kernel
theorem dX4_receive_106 : decode cX4_receive 106 = .ok (.ifCond .ne 12, 3) := by decide +kernel
theorem dX4_receive_109 : decode cX4_receive 109 = .ok (.aload_n 0, 1) := by decide +kernel
theorem dX4_receive_110 : decode cX4_receive 110 = .ok (.iload_n 1, 1) := by decide +kernel
theorem dX4_receive_111 : decode cX4_receive 111 = .ok (.iload_n 2, 1) := by decide +kernel
theorem dX4_receive_112 : decode cX4_receive 112 = .ok (.invokevirtual 185, 3) := by decide +kernel
theorem dX4_receive_115 : decode cX4_receive 115 = .ok (.goto 32, 3) := by decide +kernel
theorem dX4_receive_118 : decode cX4_receive 118 = .ok (.iload 4, 2) := by decide +kernel
theorem dX4_receive_120 : decode cX4_receive 120 = .ok (.iconst 3, 1) := by decide +kernel
theorem dX4_receive_121 : decode cX4_receive 121 = .ok (.if_icmp .ne 15, 3) := by decide +kernel
theorem dX4_receive_124 : decode cX4_receive 124 = .ok (.aload_n 0, 1) := by decide +kernel
theorem dX4_receive_125 : decode cX4_receive 125 = .ok (.iload_n 1, 1) := by decide +kernel
theorem dX4_receive_126 : decode cX4_receive 126 = .ok (.iload_n 2, 1) := by decide +kernel
theorem dX4_receive_127 : decode cX4_receive 127 = .ok (.invokestatic 83, 3) := by decide +kernel
theorem dX4_receive_130 : decode cX4_receive 130 = .ok (.invokevirtual 188, 3) := by decide +kernel
theorem dX4_receive_133 : decode cX4_receive 133 = .ok (.goto 14, 3) := by decide +kernel
theorem dX4_receive_136 : decode cX4_receive 136 = .ok (.iload 6, 2) := by decide +kernel
theorem dX4_receive_138 : decode cX4_receive 138 = .ok (.ifCond .ne 9, 3) := by decide +kernel
theorem dX4_receive_141 : decode cX4_receive 141 = .ok (.aload_n 0, 1) := by decide +kernel
theorem dX4_receive_142 : decode cX4_receive 142 = .ok (.iload_n 1, 1) := by decide +kernel
theorem dX4_receive_143 : decode cX4_receive 143 = .ok (.iload_n 2, 1) := by decide +kernel
theorem dX4_receive_144 : decode cX4_receive 144 = .ok (.invokevirtual 191, 3) := by decide +kernel
theorem dX4_receive_147 : decode cX4_receive 147 = .ok (.iload 6, 2) := by decide +kernel
theorem dX4_receive_149 : decode cX4_receive 149 = .ok (.ifCond .eq 8, 3) := by decide +kernel
theorem dX4_receive_152 : decode cX4_receive 152 = .ok (.aload_n 0, 1) := by decide +kernel
theorem dX4_receive_153 : decode cX4_receive 153 = .ok (.iload_n 1, 1) := by decide +kernel
theorem dX4_receive_154 : decode cX4_receive 154 = .ok (.invokevirtual 194, 3) := by decide +kernel
theorem dX4_receive_157 : decode cX4_receive 157 = .ok (.return_, 1) := by decide +kernel
set_option maxRecDepth 20000 in
theorem ggX4_refuseLow_X0_isMarked : GoodIn wsX4_refuseLow wsX0_isMarked := goodIn_r _ [5] (by decide +kernel) (by decide +kernel)
set_option maxRecDepth 20000 in
theorem gX4_refuseLow_X0_isMarked : GoodIn wsX4_refuseLow (va_wsS RX4 198 yX0_isMarked wsX0_isMarked) := goodIn_app (goodIn_of _ (by decide +kernel)) ggX4_refuseLow_X0_isMarked
set_option maxRecDepth 20000 in
theorem ggX4_refuseLow_X1_turnOff : GoodIn wsX4_refuseLow wsX1_turnOff := goodIn_r _ [10, 11, 12, 13, 14, 15, 16, 17, 18, 19, 20] (by decide +kernel) (by decide +kernel)
set_option maxRecDepth 20000 in
theorem gX4_refuseLow_X1_turnOff : GoodIn wsX4_refuseLow (wsV RX4 60 RX1 yX1_turnOff wsX1_turnOff) := goodIn_app (goodIn_of _ (by decide +kernel)) ggX4_refuseLow_X1_turnOff
theorem dX4_refuseLow_0 : decode cX4_refuseLow 0 = .ok (.iload_n 2, 1) := by decide +kernel
theorem dX4_refuseLow_1 : decode cX4_refuseLow 1 = .ok (.ldc 197, 2) := by decide +kernel
theorem dX4_refuseLow_3 : decode cX4_refuseLow 3 = .ok (.invokestatic 198, 3) := by decide +kernel
theorem dX4_refuseLow_6 : decode cX4_refuseLow 6 = .ok (.ifCond .eq 19, 3) := by decide +kernel
theorem dX4_refuseLow_9 : decode cX4_refuseLow 9 = .ok (.aload_n 1, 1) := by decide +kernel
theorem dX4_refuseLow_10 : decode cX4_refuseLow 10 = .ok (.getfield 34, 3) := by decide +kernel
theorem dX4_refuseLow_13 : decode cX4_refuseLow 13 = .ok (.dup, 1) := by decide +kernel
theorem dX4_refuseLow_14 : decode cX4_refuseLow 14 = .ok (.getfield 146, 3) := by decide +kernel
theorem dX4_refuseLow_17 : decode cX4_refuseLow 17 = .ok (.iconst 1, 1) := by decide +kernel
theorem dX4_refuseLow_18 : decode cX4_refuseLow 18 = .ok (.iadd, 1) := by decide +kernel
theorem dX4_refuseLow_19 : decode cX4_refuseLow 19 = .ok (.putfield 146, 3) := by decide +kernel
theorem dX4_refuseLow_22 : decode cX4_refuseLow 22 = .ok (.goto 7, 3) := by decide +kernel
theorem dX4_refuseLow_25 : decode cX4_refuseLow 25 = .ok (.aload_n 1, 1) := by decide +kernel
theorem dX4_refuseLow_26 : decode cX4_refuseLow 26 = .ok (.invokevirtual 60, 3) := by decide +kernel
theorem dX4_refuseLow_29 : decode cX4_refuseLow 29 = .ok (.return_, 1) := by decide +kernel
set_option maxRecDepth 20000 in
theorem ggX4_answerLogon_X4_sideOf : GoodIn wsX4_answerLogon wsX4_sideOf := goodIn_r _ [6, 7, 8, 55, 56, 57] (by decide +kernel) (by decide +kernel)
set_option maxRecDepth 20000 in
theorem gX4_answerLogon_X4_sideOf : GoodIn wsX4_answerLogon (wsV RX4 27 RX4 yX4_sideOf wsX4_sideOf) := goodIn_app (goodIn_of _ (by decide +kernel)) ggX4_answerLogon_X4_sideOf
set_option maxRecDepth 20000 in
theorem ggX4_answerLogon_X0_isMarked : GoodIn wsX4_answerLogon wsX0_isMarked := goodIn_r _ [12] (by decide +kernel) (by decide +kernel)
set_option maxRecDepth 20000 in
theorem gX4_answerLogon_X0_isMarked : GoodIn wsX4_answerLogon (va_wsS RX4 198 yX0_isMarked wsX0_isMarked) := goodIn_app (goodIn_of _ (by decide +kernel)) ggX4_answerLogon_X0_isMarked
set_option maxRecDepth 20000 in
theorem ggX4_answerLogon_X4_sendNew : GoodIn wsX4_answerLogon wsX4_sendNew := goodIn_r _ [16, 2, 3, 4, 5, 6, 7, 8, 17, 18, 19, 20, 21, 22, 23, 24, 11, 25, 26, 27, 28, 29, 30, 31, 32, 33, 34, 35, 36, 37, 38, 39, 40, 41, 42, 43, 44, 45, 46, 47, 48, 49, 50, 51, 52, 53, 54, 58, 59, 60, 61, 62, 63, 55, 56, 57, 64, 65] (by decide +kernel) (by decide +kernel)
set_option maxRecDepth 20000 in
theorem gX4_answerLogon_X4_sendNew : GoodIn wsX4_answerLogon (wsV RX4 53 RX4 yX4_sendNew wsX4_sendNew) := goodIn_app (goodIn_of _ (by decide +kernel)) ggX4_answerLogon_X4_sendNew
theorem dX4_answerLogon_0 : decode cX4_answerLogon 0 = .ok (.aload_n 0, 1) := by decide +kernel
theorem dX4_answerLogon_1 : decode cX4_answerLogon 1 = .ok (.iload_n 1, 1) := by decide +kernel
theorem dX4_answerLogon_2 : decode cX4_answerLogon 2 = .ok (.invokevirtual 27, 3) := by decide +kernel
theorem dX4_answerLogon_5 : decode cX4_answerLogon 5 = .ok (.astore_n 3, 1) := by decide +kernel
theorem dX4_answerLogon_6 : decode cX4_answerLogon 6 = .ok (.iload_n 2, 1) := by decide +kernel
theorem dX4_answerLogon_7 : decode cX4_answerLogon 7 = .ok (.ldc 52, 2) := by decide +kernel
theorem dX4_answerLogon_9 : decode cX4_answerLogon 9 = .ok (.invokestatic 198, 3) := by decide +kernel
theorem dX4_answerLogon_12 : decode cX4_answerLogon 12 = .ok (.ifCond .eq 25, 3) := by decide +kernel
theorem dX4_answerLogon_15 : decode cX4_answerLogon 15 = .ok (.aload_n 3, 1) := by decide +kernel
theorem dX4_answerLogon_16 : decode cX4_answerLogon 16 = .ok (.iconst 2, 1) := by decide +kernel
theorem dX4_answerLogon_17 : decode cX4_answerLogon 17 = .ok (.putfield 31, 3) := by decide +kernel
theorem dX4_answerLogon_20 : decode cX4_answerLogon 20 = .ok (.aload_n 3, 1) := by decide +kernel
theorem dX4_answerLogon_21 : decode cX4_answerLogon 21 = .ok (.iconst 0, 1) := by decide +kernel
theorem dX4_answerLogon_22 : decode cX4_answerLogon 22 = .ok (.putfield 106, 3) := by decide +kernel
theorem dX4_answerLogon_25 : decode cX4_answerLogon 25 = .ok (.aload_n 0, 1) := by decide +kernel
theorem dX4_answerLogon_26 : decode cX4_answerLogon 26 = .ok (.iload_n 1, 1) := by decide +kernel
theorem dX4_answerLogon_27 : decode cX4_answerLogon 27 = .ok (.iconst 0, 1) := by decide +kernel
theorem dX4_answerLogon_28 : decode cX4_answerLogon 28 = .ok (.iconst 0, 1) := by decide +kernel
theorem dX4_answerLogon_29 : decode cX4_answerLogon 29 = .ok (.iconst 0, 1) := by decide +kernel
theorem dX4_answerLogon_30 : decode cX4_answerLogon 30 = .ok (.invokevirtual 53, 3) := by decide +kernel
theorem dX4_answerLogon_33 : decode cX4_answerLogon 33 = .ok (.pop, 1) := by decide +kernel
theorem dX4_answerLogon_34 : decode cX4_answerLogon 34 = .ok (.goto 16, 3) := by decide +kernel
theorem dX4_answerLogon_37 : decode cX4_answerLogon 37 = .ok (.aload_n 3, 1) := by decide +kernel
theorem dX4_answerLogon_38 : decode cX4_answerLogon 38 = .ok (.getfield 31, 3) := by decide +kernel
theorem dX4_answerLogon_41 : decode cX4_answerLogon 41 = .ok (.iconst 1, 1) := by decide +kernel
theorem dX4_answerLogon_42 : decode cX4_answerLogon 42 = .ok (.if_icmp .ne 8, 3) := by decide +kernel
theorem dX4_answerLogon_45 : decode cX4_answerLogon 45 = .ok (.aload_n 3, 1) := by decide +kernel
theorem dX4_answerLogon_46 : decode cX4_answerLogon 46 = .ok (.iconst 2, 1) := by decide +kernel
theorem dX4_answerLogon_47 : decode cX4_answerLogon 47 = .ok (.putfield 31, 3) := by decide +kernel
theorem dX4_answerLogon_50 : decode cX4_answerLogon 50 = .ok (.return_, 1) := by decide +kernel
set_option maxRecDepth 20000 in
theorem ggX4_handle_X4_sideOf : GoodIn wsX4_handle wsX4_sideOf := goodIn_r _ [5, 6, 7, 86, 87, 88] (by decide +kernel) (by decide +kernel)
set_option maxRecDepth 20000 in
theorem gX4_handle_X4_sideOf : GoodIn wsX4_handle (wsV RX4 27 RX4 yX4_sideOf wsX4_sideOf) := goodIn_app (goodIn_of _ (by decide +kernel)) ggX4_handle_X4_sideOf
set_option maxRecDepth 20000 in
theorem ggX4_handle_X0_kindOf : GoodIn wsX4_handle wsX0_kindOf := goodIn_r _ [11] (by decide +kernel) (by decide +kernel)
set_option maxRecDepth 20000 in
theorem gX4_handle_X0_kindOf : GoodIn wsX4_handle (va_wsS RX4 97 yX0_kindOf wsX0_kindOf) := goodIn_app (goodIn_of _ (by decide +kernel)) ggX4_handle_X0_kindOf
set_option maxRecDepth 20000 in
theorem ggX4_handle_X4_sendNew : GoodIn wsX4_handle wsX4_sendNew := goodIn_r _ [15, 1, 2, 3, 4, 5, 6, 7, 16, 17, 18, 19, 20, 21, 22, 23, 10, 24, 25, 26, 27, 28, 29, 30, 31, 32, 33, 34, 35, 36, 37, 38, 39, 40, 41, 42, 43, 44, 45, 78, 79, 80, 81, 82, 83, 84, 85, 89, 90, 91, 92, 93, 94, 86, 87, 88, 95, 96] (by decide +kernel) (by decide +kernel)
set_option maxRecDepth 20000 in
theorem gX4_handle_X4_sendNew : GoodIn wsX4_handle (wsV RX4 53 RX4 yX4_sendNew wsX4_sendNew) := goodIn_app (goodIn_of _ (by decide +kernel)) ggX4_handle_X4_sendNew
set_option maxRecDepth 20000 in
theorem ggX4_handle_X1_turnOff : GoodIn wsX4_handle wsX1_turnOff := goodIn_r _ [50, 51, 52, 78, 79, 80, 81, 82, 83, 84, 85] (by decide +kernel) (by decide +kernel)
set_option maxRecDepth 20000 in
theorem gX4_handle_X1_turnOff : GoodIn wsX4_handle (wsV RX4 60 RX1 yX1_turnOff wsX1_turnOff) := goodIn_app (goodIn_of _ (by decide +kernel)) ggX4_handle_X1_turnOff
set_option maxRecDepth 20000 in
theorem ggX4_handle_X4_handleBusiness : GoodIn wsX4_handle wsX4_handleBusiness := goodIn_r _ [56, 57, 58, 59, 10, 60, 61, 62, 63, 64, 65, 66, 19, 67, 68, 69, 70, 71, 72, 73, 74, 75, 76, 77, 89, 90, 91, 92, 93, 94] (by decide +kernel) (by decide +kernel)
set_option maxRecDepth 20000 in
theorem gX4_handle_X4_handleBusiness : GoodIn wsX4_handle (wsV RX4 202 RX4 yX4_handleBusiness wsX4_handleBusiness) := goodIn_app (goodIn_of _ (by decide +kernel)) ggX4_handle_X4_handleBusiness
theorem dX4_handle_0 : decode cX4_handle 0 = .ok (.aload_n 0, 1) := by decide +kernel
theorem dX4_handle_1 : decode cX4_handle 1 = .ok (.iload_n 1, 1) := by decide +kernel
theorem dX4_handle_2 : decode cX4_handle 2 = .ok (.invokevirtual 27, 3) := by decide +kernel
theorem dX4_handle_5 : decode cX4_handle 5 = .ok (.astore_n 3, 1) := by decide +kernel
theorem dX4_handle_6 : decode cX4_handle 6 = .ok (.iload_n 2, 1) := by decide +kernel
theorem dX4_handle_7 : decode cX4_handle 7 = .ok (.invokestatic 97, 3) := by decide +kernel
theorem dX4_handle_10 : decode cX4_handle 10 = .ok (.tableswitch 75 2 6 #[34, 75, 75, 63, 46], 34) := by decide +kernel
theorem dX4_handle_44 : decode cX4_handle 44 = .ok (.aload_n 0, 1) := by decide +kernel
theorem dX4_handle_45 : decode cX4_handle 45 = .ok (.iload_n 1, 1) := by decide +kernel
theorem dX4_handle_46 : decode cX4_handle 46 = .ok (.iconst 1, 1) := by decide +kernel
theorem dX4_handle_47 : decode cX4_handle 47 = .ok (.iconst 0, 1) := by decide +kernel
theorem dX4_handle_48 : decode cX4_handle 48 = .ok (.iconst 0, 1) := by decide +kernel
theorem dX4_handle_49 : decode cX4_handle 49 = .ok (.invokevirtual 53, 3) := by decide +kernel
theorem dX4_handle_52 : decode cX4_handle 52 = .ok (.pop, 1) := by decide +kernel
theorem dX4_handle_53 : decode cX4_handle 53 = .ok (.goto 32, 3) := by decide +kernel
theorem dX4_handle_56 : decode cX4_handle 56 = .ok (.aload_n 0, 1) := by decide +kernel
theorem dX4_handle_57 : decode cX4_handle 57 = .ok (.iload_n 1, 1) := by decide +kernel
theorem dX4_handle_58 : decode cX4_handle 58 = .ok (.bipush 6, 2) := by decide +kernel
theorem dX4_handle_60 : decode cX4_handle 60 = .ok (.iconst 0, 1) := by decide +kernel
theorem dX4_handle_61 : decode cX4_handle 61 = .ok (.iconst 0, 1) := by decide +kernel
theorem dX4_handle_62 : decode cX4_handle 62 = .ok (.invokevirtual 53, 3) := by decide +kernel
theorem dX4_handle_65 : decode cX4_handle 65 = .ok (.pop, 1) := by decide +kernel
theorem dX4_handle_66 : decode cX4_handle 66 = .ok (.aload_n 3, 1) := by decide +kernel
theorem dX4_handle_67 : decode cX4_handle 67 = .ok (.invokevirtual 60, 3) := by decide +kernel
theorem dX4_handle_70 : decode cX4_handle 70 = .ok (.goto 15, 3) := by decide +kernel
theorem dX4_handle_73 : decode cX4_handle 73 = .ok (.aload_n 0, 1) := by decide +kernel
theorem dX4_handle_74 : decode cX4_handle 74 = .ok (.aload_n 3, 1) := by decide +kernel
theorem dX4_handle_75 : decode cX4_handle 75 = .ok (.getfield 34, 3) := by decide +kernel
theorem dX4_handle_78 : decode cX4_handle 78 = .ok (.iload_n 2, 1) := by decide +kernel
theorem dX4_handle_79 : decode cX4_handle 79 = .ok (.invokevirtual 202, 3) := by decide +kernel
theorem dX4_handle_82 : decode cX4_handle 82 = .ok (.goto 3, 3) := by decide +kernel
theorem dX4_handle_85 : decode cX4_handle 85 = .ok (.return_, 1) := by decide +kernel
set_option maxRecDepth 20000 in
theorem ggX4_handleBusiness_X0_toldBy : GoodIn wsX4_handleBusiness wsX0_toldBy := goodIn_r _ [5] (by decide +kernel) (by decide +kernel)
set_option maxRecDepth 20000 in
theorem gX4_handleBusiness_X0_toldBy : GoodIn wsX4_handleBusiness (va_wsS RX4 83 yX0_toldBy wsX0_toldBy) := goodIn_app (goodIn_of _ (by decide +kernel)) ggX4_handleBusiness_X0_toldBy
set_option maxRecDepth 20000 in
theorem ggX4_handleBusiness_X0_isMarked : GoodIn wsX4_handleBusiness wsX0_isMarked := goodIn_r _ [8] (by decide +kernel) (by decide +kernel)
set_option maxRecDepth 20000 in
theorem gX4_handleBusiness_X0_isMarked : GoodIn wsX4_handleBusiness (va_wsS RX4 198 yX0_isMarked wsX0_isMarked) := goodIn_app (goodIn_of _ (by decide +kernel)) ggX4_handleBusiness_X0_isMarked
set_option maxRecDepth 20000 in
theorem ggX4_handleBusiness_X2_hasHandled : GoodIn wsX4_handleBusiness wsX2_hasHandled := goodIn_r _ [13, 14, 15, 16, 17, 12, 18, 19, 24, 25, 26, 27, 28, 29] (by decide +kernel) (by decide +kernel)
set_option maxRecDepth 20000 in
theorem gX4_handleBusiness_X2_hasHandled : GoodIn wsX4_handleBusiness (wsV RX4 206 RX2 yX2_hasHandled wsX2_hasHandled) := goodIn_app (goodIn_of _ (by decide +kernel)) ggX4_handleBusiness_X2_hasHandled
set_option maxRecDepth 20000 in
theorem ggX4_handleBusiness_X2_addKey : GoodIn wsX4_handleBusiness wsX2_addKey := goodIn_r _ [23, 14, 19, 24, 25, 26, 27, 28, 29] (by decide +kernel) (by decide +kernel)
set_option maxRecDepth 20000 in
theorem gX4_handleBusiness_X2_addKey : GoodIn wsX4_handleBusiness (wsV RX4 209 RX2 yX2_addKey wsX2_addKey) := goodIn_app (goodIn_of _ (by decide +kernel)) ggX4_handleBusiness_X2_addKey
theorem dX4_handleBusiness_0 : decode cX4_handleBusiness 0 = .ok (.iload_n 2, 1) := by decide +kernel
theorem dX4_handleBusiness_1 : decode cX4_handleBusiness 1 = .ok (.invokestatic 83, 3) := by decide +kernel
theorem dX4_handleBusiness_4 : decode cX4_handleBusiness 4 = .ok (.istore_n 3, 1) := by decide +kernel
theorem dX4_handleBusiness_5 : decode cX4_handleBusiness 5 = .ok (.iload_n 2, 1) := by decide +kernel
theorem dX4_handleBusiness_6 : decode cX4_handleBusiness 6 = .ok (.ldc 86, 2) := by decide +kernel
theorem dX4_handleBusiness_8 : decode cX4_handleBusiness 8 = .ok (.invokestatic 198, 3) := by decide +kernel
theorem dX4_handleBusiness_11 : decode cX4_handleBusiness 11 = .ok (.ifCond .eq 24, 3) := by decide +kernel
theorem dX4_handleBusiness_14 : decode cX4_handleBusiness 14 = .ok (.aload_n 1, 1) := by decide +kernel
theorem dX4_handleBusiness_15 : decode cX4_handleBusiness 15 = .ok (.iload_n 3, 1) := by decide +kernel
theorem dX4_handleBusiness_16 : decode cX4_handleBusiness 16 = .ok (.invokevirtual 206, 3) := by decide +kernel
theorem dX4_handleBusiness_19 : decode cX4_handleBusiness 19 = .ok (.ifCond .eq 16, 3) := by decide +kernel
theorem dX4_handleBusiness_22 : decode cX4_handleBusiness 22 = .ok (.aload_n 1, 1) := by decide +kernel
theorem dX4_handleBusiness_23 : decode cX4_handleBusiness 23 = .ok (.dup, 1) := by decide +kernel
theorem dX4_handleBusiness_24 : decode cX4_handleBusiness 24 = .ok (.getfield 146, 3) := by decide +kernel
theorem dX4_handleBusiness_27 : decode cX4_handleBusiness 27 = .ok (.iconst 1, 1) := by decide +kernel
theorem dX4_handleBusiness_28 : decode cX4_handleBusiness 28 = .ok (.iadd, 1) := by decide +kernel
theorem dX4_handleBusiness_29 : decode cX4_handleBusiness 29 = .ok (.putfield 146, 3) := by decide +kernel
theorem dX4_handleBusiness_32 : decode cX4_handleBusiness 32 = .ok (.goto 8, 3) := by decide +kernel
theorem dX4_handleBusiness_35 : decode cX4_handleBusiness 35 = .ok (.aload_n 1, 1) := by decide +kernel
theorem dX4_handleBusiness_36 : decode cX4_handleBusiness 36 = .ok (.iload_n 3, 1) := by decide +kernel
theorem dX4_handleBusiness_37 : decode cX4_handleBusiness 37 = .ok (.invokevirtual 209, 3) := by decide +kernel
theorem dX4_handleBusiness_40 : decode cX4_handleBusiness 40 = .ok (.return_, 1) := by decide +kernel
set_option maxRecDepth 20000 in
theorem ggX4_askForResend_X4_sideOf : GoodIn wsX4_askForResend wsX4_sideOf := goodIn_r _ [6, 7, 8, 57, 58, 59] (by decide +kernel) (by decide +kernel)
set_option maxRecDepth 20000 in
theorem gX4_askForResend_X4_sideOf : GoodIn wsX4_askForResend (wsV RX4 27 RX4 yX4_sideOf wsX4_sideOf) := goodIn_app (goodIn_of _ (by decide +kernel)) ggX4_askForResend_X4_sideOf
set_option maxRecDepth 20000 in
theorem ggX4_askForResend_X4_sendNew : GoodIn wsX4_askForResend wsX4_sendNew := goodIn_r _ [12, 2, 3, 4, 5, 6, 7, 8, 13, 14, 15, 16, 17, 18, 19, 20, 21, 22, 23, 24, 25, 26, 27, 28, 29, 30, 31, 1, 32, 33, 34, 35, 36, 37, 38, 39, 40, 41, 42, 43, 44, 45, 46, 47, 48, 49, 50, 51, 52, 53, 54, 55, 56, 57, 58, 59, 60, 61] (by decide +kernel) (by decide +kernel)
set_option maxRecDepth 20000 in
theorem gX4_askForResend_X4_sendNew : GoodIn wsX4_askForResend (wsV RX4 53 RX4 yX4_sendNew wsX4_sendNew) := goodIn_app (goodIn_of _ (by decide +kernel)) ggX4_askForResend_X4_sendNew
theorem dX4_askForResend_0 : decode cX4_askForResend 0 = .ok (.aload_n 0, 1) := by decide +kernel
theorem dX4_askForResend_1 : decode cX4_askForResend 1 = .ok (.iload_n 1, 1) := by decide +kernel
theorem dX4_askForResend_2 : decode cX4_askForResend 2 = .ok (.invokevirtual 27, 3) := by decide +kernel
theorem dX4_askForResend_5 : decode cX4_askForResend 5 = .ok (.astore_n 2, 1) := by decide +kernel
theorem dX4_askForResend_6 : decode cX4_askForResend 6 = .ok (.aload_n 2, 1) := by decide +kernel
theorem dX4_askForResend_7 : decode cX4_askForResend 7 = .ok (.getfield 31, 3) := by decide +kernel
theorem dX4_askForResend_10 : decode cX4_askForResend 10 = .ok (.iconst 2, 1) := by decide +kernel
theorem dX4_askForResend_11 : decode cX4_askForResend 11 = .ok (.if_icmp .ne 38, 3) := by decide +kernel
theorem dX4_askForResend_14 : decode cX4_askForResend 14 = .ok (.aload_n 2, 1) := by decide +kernel
theorem dX4_askForResend_15 : decode cX4_askForResend 15 = .ok (.getfield 106, 3) := by decide +kernel
theorem dX4_askForResend_18 : decode cX4_askForResend 18 = .ok (.ifCond .ne 31, 3) := by decide +kernel
theorem dX4_askForResend_21 : decode cX4_askForResend 21 = .ok (.aload_n 0, 1) := by decide +kernel
theorem dX4_askForResend_22 : decode cX4_askForResend 22 = .ok (.iload_n 1, 1) := by decide +kernel
theorem dX4_askForResend_23 : decode cX4_askForResend 23 = .ok (.iconst 3, 1) := by decide +kernel
theorem dX4_askForResend_24 : decode cX4_askForResend 24 = .ok (.aload_n 2, 1) := by decide +kernel
theorem dX4_askForResend_25 : decode cX4_askForResend 25 = .ok (.getfield 34, 3) := by decide +kernel
theorem dX4_askForResend_28 : decode cX4_askForResend 28 = .ok (.getfield 103, 3) := by decide +kernel
theorem dX4_askForResend_31 : decode cX4_askForResend 31 = .ok (.iconst 0, 1) := by decide +kernel
theorem dX4_askForResend_32 : decode cX4_askForResend 32 = .ok (.invokevirtual 53, 3) := by decide +kernel
theorem dX4_askForResend_35 : decode cX4_askForResend 35 = .ok (.pop, 1) := by decide +kernel
theorem dX4_askForResend_36 : decode cX4_askForResend 36 = .ok (.aload_n 2, 1) := by decide +kernel
theorem dX4_askForResend_37 : decode cX4_askForResend 37 = .ok (.iconst 1, 1) := by decide +kernel
theorem dX4_askForResend_38 : decode cX4_askForResend 38 = .ok (.putfield 106, 3) := by decide +kernel
theorem dX4_askForResend_41 : decode cX4_askForResend 41 = .ok (.aload_n 2, 1) := by decide +kernel
theorem dX4_askForResend_42 : decode cX4_askForResend 42 = .ok (.aload_n 0, 1) := by decide +kernel
theorem dX4_askForResend_43 : decode cX4_askForResend 43 = .ok (.getfield 19, 3) := by decide +kernel
theorem dX4_askForResend_46 : decode cX4_askForResend 46 = .ok (.putfield 212, 3) := by decide +kernel
theorem dX4_askForResend_49 : decode cX4_askForResend 49 = .ok (.return_, 1) := by decide +kernel
set_option maxRecDepth 20000 in
theorem ggX4_answerResend_X4_sideOf : GoodIn wsX4_answerResend wsX4_sideOf := goodIn_r _ [10, 11, 12, 66, 67, 68] (by decide +kernel) (by decide +kernel)
set_option maxRecDepth 20000 in
theorem gX4_answerResend_X4_sideOf : GoodIn wsX4_answerResend (wsV RX4 27 RX4 yX4_sideOf wsX4_sideOf) := goodIn_app (goodIn_of _ (by decide +kernel)) ggX4_answerResend_X4_sideOf
set_option maxRecDepth 20000 in
theorem ggX4_answerResend_X2_hasBusiness : GoodIn wsX4_answerResend wsX2_hasBusiness := goodIn_r _ [17, 18, 19, 20, 21, 16, 22, 23, 24, 25, 26, 27, 60, 61, 62, 63, 64, 65] (by decide +kernel) (by decide +kernel)
set_option maxRecDepth 20000 in
theorem gX4_answerResend_X2_hasBusiness : GoodIn wsX4_answerResend (wsV RX4 72 RX2 yX2_hasBusiness wsX2_hasBusiness) := goodIn_app (goodIn_of _ (by decide +kernel)) ggX4_answerResend_X2_hasBusiness
set_option maxRecDepth 20000 in
theorem ggX4_answerResend_X4_putFill : GoodIn wsX4_answerResend wsX4_putFill := goodIn_r _ [31, 5, 32, 33, 26, 34, 35, 36, 37, 9, 38, 39, 6, 7, 8, 10, 11, 12, 40, 41, 42, 43, 44, 45, 46, 47, 48, 49, 50, 66, 67, 68, 52, 53, 54, 55, 56, 57, 58, 59, 69, 70] (by decide +kernel) (by decide +kernel)
set_option maxRecDepth 20000 in
theorem gX4_answerResend_X4_putFill : GoodIn wsX4_answerResend (wsV RX4 218 RX4 yX4_putFill wsX4_putFill) := goodIn_app (goodIn_of _ (by decide +kernel)) ggX4_answerResend_X4_putFill
set_option maxRecDepth 20000 in
theorem ggX4_answerResend_X2_sentAt : GoodIn wsX4_answerResend wsX2_sentAt := goodIn_r _ [22, 23, 60, 61, 62, 63, 64, 65] (by decide +kernel) (by decide +kernel)
set_option maxRecDepth 20000 in
theorem gX4_answerResend_X2_sentAt : GoodIn wsX4_answerResend (wsV RX4 79 RX2 yX2_sentAt wsX2_sentAt) := goodIn_app (goodIn_of _ (by decide +kernel)) ggX4_answerResend_X2_sentAt
set_option maxRecDepth 20000 in
theorem ggX4_answerResend_X4_putOnWire : GoodIn wsX4_answerResend wsX4_putOnWire := goodIn_r _ [38, 39, 6, 7, 8, 9, 10, 11, 12, 40, 41, 42, 43, 44, 45, 46, 47, 48, 49, 50, 66, 67, 68, 52, 53, 54, 55, 56, 57, 58, 59, 69, 70] (by decide +kernel) (by decide +kernel)
set_option maxRecDepth 20000 in
theorem gX4_answerResend_X4_putOnWire : GoodIn wsX4_answerResend (wsV RX4 178 RX4 yX4_putOnWire wsX4_putOnWire) := goodIn_app (goodIn_of _ (by decide +kernel)) ggX4_answerResend_X4_putOnWire
theorem dX4_answerResend_0 : decode cX4_answerResend 0 = .ok (.aload_n 0, 1) := by decide +kernel
theorem dX4_answerResend_1 : decode cX4_answerResend 1 = .ok (.iload_n 1, 1) := by decide +kernel
theorem dX4_answerResend_2 : decode cX4_answerResend 2 = .ok (.invokevirtual 27, 3) := by decide +kernel
theorem dX4_answerResend_5 : decode cX4_answerResend 5 = .ok (.getfield 34, 3) := by decide +kernel
theorem dX4_answerResend_8 : decode cX4_answerResend 8 = .ok (.astore_n 3, 1) := by decide +kernel
theorem dX4_answerResend_9 : decode cX4_answerResend 9 = .ok (.aload_n 3, 1) := by decide +kernel
theorem dX4_answerResend_10 : decode cX4_answerResend 10 = .ok (.getfield 63, 3) := by decide +kernel
theorem dX4_answerResend_13 : decode cX4_answerResend 13 = .ok (.istore 4, 2) := by decide +kernel
theorem dX4_answerResend_15 : decode cX4_answerResend 15 = .ok (.iconst (-1), 1) := by decide +kernel
theorem dX4_answerResend_16 : decode cX4_answerResend 16 = .ok (.istore 5, 2) := by decide +kernel
theorem dX4_answerResend_18 : decode cX4_answerResend 18 = .ok (.iload_n 2, 1) := by decide +kernel
theorem dX4_answerResend_19 : decode cX4_answerResend 19 = .ok (.iconst 1, 1) := by decide +kernel
theorem dX4_answerResend_20 : decode cX4_answerResend 20 = .ok (.invokestatic 215, 3) := by decide +kernel
theorem dX4_answerResend_23 : decode cX4_answerResend 23 = .ok (.istore 6, 2) := by decide +kernel
theorem dX4_answerResend_25 : decode cX4_answerResend 25 = .ok (.iload 6, 2) := by decide +kernel
theorem dX4_answerResend_27 : decode cX4_answerResend 27 = .ok (.iload 4, 2) := by decide +kernel
theorem dX4_answerResend_29 : decode cX4_answerResend 29 = .ok (.if_icmp .gt 57, 3) := by decide +kernel
theorem dX4_answerResend_32 : decode cX4_answerResend 32 = .ok (.aload_n 3, 1) := by decide +kernel
theorem dX4_answerResend_33 : decode cX4_answerResend 33 = .ok (.iload 6, 2) := by decide +kernel
theorem dX4_answerResend_35 : decode cX4_answerResend 35 = .ok (.invokevirtual 72, 3) := by decide +kernel
theorem dX4_answerResend_38 : decode cX4_answerResend 38 = .ok (.ifCond .eq 32, 3) := by decide +kernel
theorem dX4_answerResend_41 : decode cX4_answerResend 41 = .ok (.aload_n 0, 1) := by decide +kernel
theorem dX4_answerResend_42 : decode cX4_answerResend 42 = .ok (.iload_n 1, 1) := by decide +kernel
theorem dX4_answerResend_43 : decode cX4_answerResend 43 = .ok (.iload 5, 2) := by decide +kernel
theorem dX4_answerResend_45 : decode cX4_answerResend 45 = .ok (.iload 6, 2) := by decide +kernel
theorem dX4_answerResend_47 : decode cX4_answerResend 47 = .ok (.invokevirtual 218, 3) := by decide +kernel
theorem dX4_answerResend_50 : decode cX4_answerResend 50 = .ok (.iconst (-1), 1) := by decide +kernel
theorem dX4_answerResend_51 : decode cX4_answerResend 51 = .ok (.istore 5, 2) := by decide +kernel
theorem dX4_answerResend_53 : decode cX4_answerResend 53 = .ok (.aload_n 0, 1) := by decide +kernel
theorem dX4_answerResend_54 : decode cX4_answerResend 54 = .ok (.iload_n 1, 1) := by decide +kernel
theorem dX4_answerResend_55 : decode cX4_answerResend 55 = .ok (.aload_n 3, 1) := by decide +kernel
theorem dX4_answerResend_56 : decode cX4_answerResend 56 = .ok (.iload 6, 2) := by decide +kernel
theorem dX4_answerResend_58 : decode cX4_answerResend 58 = .ok (.invokevirtual 79, 3) := by decide +kernel
theorem dX4_answerResend_61 : decode cX4_answerResend 61 = .ok (.ldc 197, 2) := by decide +kernel
theorem dX4_answerResend_63 : decode cX4_answerResend 63 = .ok (.ior, 1) := by decide +kernel
theorem dX4_answerResend_64 : decode cX4_answerResend 64 = .ok (.invokevirtual 178, 3) := by decide +kernel
theorem dX4_answerResend_67 : decode cX4_answerResend 67 = .ok (.goto 13, 3) := by decide +kernel
theorem dX4_answerResend_70 : decode cX4_answerResend 70 = .ok (.iload 5, 2) := by decide +kernel
theorem dX4_answerResend_72 : decode cX4_answerResend 72 = .ok (.iconst (-1), 1) := by decide +kernel
theorem dX4_answerResend_73 : decode cX4_answerResend 73 = .ok (.if_icmp .ne 7, 3) := by decide +kernel
theorem dX4_answerResend_76 : decode cX4_answerResend 76 = .ok (.iload 6, 2) := by decide +kernel
theorem dX4_answerResend_78 : decode cX4_answerResend 78 = .ok (.istore 5, 2) := by decide +kernel
theorem dX4_answerResend_80 : decode cX4_answerResend 80 = .ok (.iinc 6 1, 3) := by decide +kernel
theorem dX4_answerResend_83 : decode cX4_answerResend 83 = .ok (.goto (-58), 3) := by decide +kernel
theorem dX4_answerResend_86 : decode cX4_answerResend 86 = .ok (.aload_n 0, 1) := by decide +kernel
theorem dX4_answerResend_87 : decode cX4_answerResend 87 = .ok (.iload_n 1, 1) := by decide +kernel
theorem dX4_answerResend_88 : decode cX4_answerResend 88 = .ok (.iload 5, 2) := by decide +kernel
theorem dX4_answerResend_90 : decode cX4_answerResend 90 = .ok (.iload 4, 2) := by decide +kernel
theorem dX4_answerResend_92 : decode cX4_answerResend 92 = .ok (.iconst 1, 1) := by decide +kernel
theorem dX4_answerResend_93 : decode cX4_answerResend 93 = .ok (.iadd, 1) := by decide +kernel
theorem dX4_answerResend_94 : decode cX4_answerResend 94 = .ok (.invokevirtual 218, 3) := by decide +kernel
theorem dX4_answerResend_97 : decode cX4_answerResend 97 = .ok (.return_, 1) := by decide +kernel
set_option maxRecDepth 20000 in
theorem ggX4_putFill_X0_of : GoodIn wsX4_putFill wsX0_of := goodIn_r _ [5] (by decide +kernel) (by decide +kernel)
set_option maxRecDepth 20000 in
theorem gX4_putFill_X0_of : GoodIn wsX4_putFill (va_wsS RX4 172 yX0_of wsX0_of) := goodIn_app (goodIn_of _ (by decide +kernel)) ggX4_putFill_X0_of
set_option maxRecDepth 20000 in
theorem ggX4_putFill_X4_putOnWire : GoodIn wsX4_putFill wsX4_putOnWire := goodIn_r _ [10, 11, 12, 13, 14, 9, 15, 16, 17, 18, 19, 20, 21, 22, 23, 24, 25, 26, 27, 28, 29, 30, 31, 32, 33, 34, 35, 36, 37, 38, 39, 40, 41] (by decide +kernel) (by decide +kernel)
set_option maxRecDepth 20000 in
theorem gX4_putFill_X4_putOnWire : GoodIn wsX4_putFill (wsV RX4 178 RX4 yX4_putOnWire wsX4_putOnWire) := goodIn_app (goodIn_of _ (by decide +kernel)) ggX4_putFill_X4_putOnWire
theorem dX4_putFill_0 : decode cX4_putFill 0 = .ok (.iload_n 2, 1) := by decide +kernel
theorem dX4_putFill_1 : decode cX4_putFill 1 = .ok (.iconst (-1), 1) := by decide +kernel
theorem dX4_putFill_2 : decode cX4_putFill 2 = .ok (.if_icmp .eq 16, 3) := by decide +kernel
theorem dX4_putFill_5 : decode cX4_putFill 5 = .ok (.aload_n 0, 1) := by decide +kernel
theorem dX4_putFill_6 : decode cX4_putFill 6 = .ok (.iload_n 1, 1) := by decide +kernel
theorem dX4_putFill_7 : decode cX4_putFill 7 = .ok (.iload_n 2, 1) := by decide +kernel
theorem dX4_putFill_8 : decode cX4_putFill 8 = .ok (.iconst 4, 1) := by decide +kernel
theorem dX4_putFill_9 : decode cX4_putFill 9 = .ok (.iload_n 3, 1) := by decide +kernel
theorem dX4_putFill_10 : decode cX4_putFill 10 = .ok (.ldc 197, 2) := by decide +kernel
theorem dX4_putFill_12 : decode cX4_putFill 12 = .ok (.invokestatic 172, 3) := by decide +kernel
theorem dX4_putFill_15 : decode cX4_putFill 15 = .ok (.invokevirtual 178, 3) := by decide +kernel
theorem dX4_putFill_18 : decode cX4_putFill 18 = .ok (.return_, 1) := by decide +kernel
set_option maxRecDepth 20000 in
theorem ggX4_passTick_X4_sideOf : GoodIn wsX4_passTick wsX4_sideOf := goodIn_r _ [6, 7, 8, 58, 59, 60] (by decide +kernel) (by decide +kernel)
set_option maxRecDepth 20000 in
theorem gX4_passTick_X4_sideOf : GoodIn wsX4_passTick (wsV RX4 27 RX4 yX4_sideOf wsX4_sideOf) := goodIn_app (goodIn_of _ (by decide +kernel)) ggX4_passTick_X4_sideOf
set_option maxRecDepth 20000 in
theorem ggX4_passTick_X1_turnOff : GoodIn wsX4_passTick wsX1_turnOff := goodIn_r _ [13, 14, 15, 50, 51, 52, 53, 54, 55, 56, 57] (by decide +kernel) (by decide +kernel)
set_option maxRecDepth 20000 in
theorem gX4_passTick_X1_turnOff : GoodIn wsX4_passTick (wsV RX4 60 RX1 yX1_turnOff wsX1_turnOff) := goodIn_app (goodIn_of _ (by decide +kernel)) ggX4_passTick_X1_turnOff
set_option maxRecDepth 20000 in
theorem ggX4_passTick_X4_sendNew : GoodIn wsX4_passTick wsX4_sendNew := goodIn_r _ [19, 2, 3, 4, 5, 6, 7, 8, 20, 21, 22, 23, 24, 25, 26, 27, 28, 29, 30, 31, 32, 33, 34, 35, 36, 37, 38, 1, 39, 40, 41, 42, 43, 44, 45, 46, 47, 48, 49, 50, 51, 52, 53, 54, 55, 56, 57, 61, 62, 63, 64, 65, 66, 58, 59, 60, 67, 68] (by decide +kernel) (by decide +kernel)
set_option maxRecDepth 20000 in
theorem gX4_passTick_X4_sendNew : GoodIn wsX4_passTick (wsV RX4 53 RX4 yX4_sendNew wsX4_sendNew) := goodIn_app (goodIn_of _ (by decide +kernel)) ggX4_passTick_X4_sendNew
theorem dX4_passTick_0 : decode cX4_passTick 0 = .ok (.aload_n 0, 1) := by decide +kernel
theorem dX4_passTick_1 : decode cX4_passTick 1 = .ok (.iload_n 1, 1) := by decide +kernel
theorem dX4_passTick_2 : decode cX4_passTick 2 = .ok (.invokevirtual 27, 3) := by decide +kernel
theorem dX4_passTick_5 : decode cX4_passTick 5 = .ok (.astore_n 2, 1) := by decide +kernel
theorem dX4_passTick_6 : decode cX4_passTick 6 = .ok (.aload_n 2, 1) := by decide +kernel
theorem dX4_passTick_7 : decode cX4_passTick 7 = .ok (.getfield 31, 3) := by decide +kernel
theorem dX4_passTick_10 : decode cX4_passTick 10 = .ok (.iconst 2, 1) := by decide +kernel
theorem dX4_passTick_11 : decode cX4_passTick 11 = .ok (.if_icmp .eq 4, 3) := by decide +kernel
theorem dX4_passTick_14 : decode cX4_passTick 14 = .ok (.return_, 1) := by decide +kernel
theorem dX4_passTick_15 : decode cX4_passTick 15 = .ok (.aload_n 0, 1) := by decide +kernel
theorem dX4_passTick_16 : decode cX4_passTick 16 = .ok (.getfield 19, 3) := by decide +kernel
theorem dX4_passTick_19 : decode cX4_passTick 19 = .ok (.aload_n 2, 1) := by decide +kernel
theorem dX4_passTick_20 : decode cX4_passTick 20 = .ok (.getfield 212, 3) := by decide +kernel
theorem dX4_passTick_23 : decode cX4_passTick 23 = .ok (.isub, 1) := by decide +kernel
theorem dX4_passTick_24 : decode cX4_passTick 24 = .ok (.iconst 4, 1) := by decide +kernel
theorem dX4_passTick_25 : decode cX4_passTick 25 = .ok (.if_icmp .lt 8, 3) := by decide +kernel
theorem dX4_passTick_28 : decode cX4_passTick 28 = .ok (.aload_n 2, 1) := by decide +kernel
theorem dX4_passTick_29 : decode cX4_passTick 29 = .ok (.iconst 0, 1) := by decide +kernel
theorem dX4_passTick_30 : decode cX4_passTick 30 = .ok (.putfield 106, 3) := by decide +kernel
theorem dX4_passTick_33 : decode cX4_passTick 33 = .ok (.aload_n 0, 1) := by decide +kernel
theorem dX4_passTick_34 : decode cX4_passTick 34 = .ok (.getfield 19, 3) := by decide +kernel
theorem dX4_passTick_37 : decode cX4_passTick 37 = .ok (.aload_n 2, 1) := by decide +kernel
theorem dX4_passTick_38 : decode cX4_passTick 38 = .ok (.getfield 222, 3) := by decide +kernel
theorem dX4_passTick_41 : decode cX4_passTick 41 = .ok (.isub, 1) := by decide +kernel
theorem dX4_passTick_42 : decode cX4_passTick 42 = .ok (.istore_n 3, 1) := by decide +kernel
theorem dX4_passTick_43 : decode cX4_passTick 43 = .ok (.iload_n 3, 1) := by decide +kernel
theorem dX4_passTick_44 : decode cX4_passTick 44 = .ok (.bipush 8, 2) := by decide +kernel
theorem dX4_passTick_46 : decode cX4_passTick 46 = .ok (.if_icmp .lt 10, 3) := by decide +kernel
theorem dX4_passTick_49 : decode cX4_passTick 49 = .ok (.aload_n 2, 1) := by decide +kernel
theorem dX4_passTick_50 : decode cX4_passTick 50 = .ok (.invokevirtual 60, 3) := by decide +kernel
theorem dX4_passTick_53 : decode cX4_passTick 53 = .ok (.goto 54, 3) := by decide +kernel
theorem dX4_passTick_56 : decode cX4_passTick 56 = .ok (.iload_n 3, 1) := by decide +kernel
theorem dX4_passTick_57 : decode cX4_passTick 57 = .ok (.iconst 5, 1) := by decide +kernel
theorem dX4_passTick_58 : decode cX4_passTick 58 = .ok (.if_icmp .lt 27, 3) := by decide +kernel
theorem dX4_passTick_61 : decode cX4_passTick 61 = .ok (.aload_n 2, 1) := by decide +kernel
theorem dX4_passTick_62 : decode cX4_passTick 62 = .ok (.getfield 225, 3) := by decide +kernel
theorem dX4_passTick_65 : decode cX4_passTick 65 = .ok (.ifCond .ne 20, 3) := by decide +kernel
theorem dX4_passTick_68 : decode cX4_passTick 68 = .ok (.aload_n 2, 1) := by decide +kernel
theorem dX4_passTick_69 : decode cX4_passTick 69 = .ok (.iconst 1, 1) := by decide +kernel
theorem dX4_passTick_70 : decode cX4_passTick 70 = .ok (.putfield 225, 3) := by decide +kernel
theorem dX4_passTick_73 : decode cX4_passTick 73 = .ok (.aload_n 0, 1) := by decide +kernel
theorem dX4_passTick_74 : decode cX4_passTick 74 = .ok (.iload_n 1, 1) := by decide +kernel
theorem dX4_passTick_75 : decode cX4_passTick 75 = .ok (.iconst 2, 1) := by decide +kernel
theorem dX4_passTick_76 : decode cX4_passTick 76 = .ok (.iconst 0, 1) := by decide +kernel
theorem dX4_passTick_77 : decode cX4_passTick 77 = .ok (.iconst 0, 1) := by decide +kernel
theorem dX4_passTick_78 : decode cX4_passTick 78 = .ok (.invokevirtual 53, 3) := by decide +kernel
theorem dX4_passTick_81 : decode cX4_passTick 81 = .ok (.pop, 1) := by decide +kernel
theorem dX4_passTick_82 : decode cX4_passTick 82 = .ok (.goto 25, 3) := by decide +kernel
theorem dX4_passTick_85 : decode cX4_passTick 85 = .ok (.aload_n 0, 1) := by decide +kernel
theorem dX4_passTick_86 : decode cX4_passTick 86 = .ok (.getfield 19, 3) := by decide +kernel
theorem dX4_passTick_89 : decode cX4_passTick 89 = .ok (.aload_n 2, 1) := by decide +kernel
theorem dX4_passTick_90 : decode cX4_passTick 90 = .ok (.getfield 166, 3) := by decide +kernel
theorem dX4_passTick_93 : decode cX4_passTick 93 = .ok (.isub, 1) := by decide +kernel
theorem dX4_passTick_94 : decode cX4_passTick 94 = .ok (.iconst 3, 1) := by decide +kernel
theorem dX4_passTick_95 : decode cX4_passTick 95 = .ok (.if_icmp .lt 12, 3) := by decide +kernel
theorem dX4_passTick_98 : decode cX4_passTick 98 = .ok (.aload_n 0, 1) := by decide +kernel
theorem dX4_passTick_99 : decode cX4_passTick 99 = .ok (.iload_n 1, 1) := by decide +kernel
theorem dX4_passTick_100 : decode cX4_passTick 100 = .ok (.iconst 1, 1) := by decide +kernel
theorem dX4_passTick_101 : decode cX4_passTick 101 = .ok (.iconst 0, 1) := by decide +kernel
theorem dX4_passTick_102 : decode cX4_passTick 102 = .ok (.iconst 0, 1) := by decide +kernel
theorem dX4_passTick_103 : decode cX4_passTick 103 = .ok (.invokevirtual 53, 3) := by decide +kernel
theorem dX4_passTick_106 : decode cX4_passTick 106 = .ok (.pop, 1) := by decide +kernel
theorem dX4_passTick_107 : decode cX4_passTick 107 = .ok (.return_, 1) := by decide +kernel
set_option maxRecDepth 20000 in
theorem ggX5_init_X5_empties : GoodIn wsX5_init wsX5_empties := goodIn_r _ [31, 8, 9, 14, 15, 22, 32, 33, 34, 35, 36, 37, 38, 39, 40, 41, 42, 43, 44, 45, 46, 47, 48, 49, 50, 51, 52, 53] (by decide +kernel) (by decide +kernel)
set_option maxRecDepth 20000 in
theorem gX5_init_X5_empties : GoodIn wsX5_init (wsV RX5 72 RX5 yX5_empties wsX5_empties) := goodIn_app (goodIn_of _ (by decide +kernel)) ggX5_init_X5_empties
theorem dX5_init_0 : decode cX5_init 0 = .ok (.aload_n 0, 1) := by decide +kernel
theorem dX5_init_1 : decode cX5_init 1 = .ok (.invokespecial 1, 3) := by decide +kernel
theorem dX5_init_4 : decode cX5_init 4 = .ok (.aload_n 0, 1) := by decide +kernel
