/-! THE LAW'S WORDS: each list of them among the tables' words, by places (wip/gen/lawwords.py) -/
set_option maxRecDepth 100000 in
theorem in_wsL_law_r1 : GoodIn lw_tbl wsL_law_r1 := goodIn_r _ [54, 55, 41, 692, 693, 45, 56, 57, 58, 59, 60, 61, 62, 63, 42, 155, 156, 157, 138, 70, 43, 158, 140, 141] (by decide +kernel) (by decide +kernel)
set_option maxRecDepth 100000 in
theorem in_wsL_law_r2 : GoodIn lw_tbl wsL_law_r2 := goodIn_r _ [44, 159, 154, 160, 161, 162, 163, 64, 65, 66, 67, 68, 115, 116, 72, 73, 74, 143, 144, 145, 146, 694, 695, 696] (by decide +kernel) (by decide +kernel)
set_option maxRecDepth 100000 in
theorem in_wsL_law_r3 : GoodIn lw_tbl wsL_law_r3 := goodIn_r _ [697, 698, 699, 700, 701, 703, 704, 705, 709, 189, 190, 191, 192, 148, 193, 194, 195, 196, 198, 0, 199, 200, 201, 202] (by decide +kernel) (by decide +kernel)
set_option maxRecDepth 100000 in
theorem in_wsL_law_r4 : GoodIn lw_tbl wsL_law_r4 := goodIn_r _ [203, 147, 738, 739, 740, 741, 706, 742, 744, 17, 745, 204, 205, 206, 207, 208, 210, 1, 211, 212, 213, 214, 215, 216] (by decide +kernel) (by decide +kernel)
set_option maxRecDepth 100000 in
theorem in_wsL_law_r5 : GoodIn lw_tbl wsL_law_r5 := goodIn_r _ [217, 218, 219, 220, 221, 222, 228, 229, 230, 46, 231, 1050, 232, 233, 234, 235, 236, 237, 238, 239, 240, 1051, 242, 243] (by decide +kernel) (by decide +kernel)
set_option maxRecDepth 100000 in
theorem in_wsL_law_r6 : GoodIn lw_tbl wsL_law_r6 := goodIn_r _ [244, 245, 246, 247, 248, 249, 250, 251, 47, 252, 253, 254, 255, 256, 258, 259, 48, 260, 261, 262, 49, 263, 264, 265] (by decide +kernel) (by decide +kernel)
set_option maxRecDepth 100000 in
theorem in_wsL_law_r7 : GoodIn lw_tbl wsL_law_r7 := goodIn_r _ [266, 267, 268, 269, 270, 271, 272, 273, 274, 276, 278, 280, 282, 2, 283, 284, 285, 286, 287, 289, 290, 291, 292, 293] (by decide +kernel) (by decide +kernel)
set_option maxRecDepth 100000 in
theorem in_wsL_law_r8 : GoodIn lw_tbl wsL_law_r8 := goodIn_r _ [294, 295, 296, 297, 298, 299, 300, 304, 305, 50, 306, 307, 308, 309, 301, 302, 303, 310, 311, 312, 313, 314, 315, 316] (by decide +kernel) (by decide +kernel)
set_option maxRecDepth 100000 in
theorem in_wsL_law_r9 : GoodIn lw_tbl wsL_law_r9 := goodIn_r _ [317, 318, 319, 320, 321, 322, 323, 324, 325, 326, 327, 328, 329, 330, 331, 332, 333, 334, 335, 336, 337, 338, 51, 339] (by decide +kernel) (by decide +kernel)
set_option maxRecDepth 100000 in
theorem in_wsL_law_r10 : GoodIn lw_tbl wsL_law_r10 := goodIn_r _ [340, 341, 342, 343, 344, 345, 346, 347, 348, 349, 350, 351, 117, 119, 121, 123, 352, 353, 354, 355, 356, 357, 358, 359] (by decide +kernel) (by decide +kernel)
set_option maxRecDepth 100000 in
theorem in_wsL_law_r11 : GoodIn lw_tbl wsL_law_r11 := goodIn_r _ [75, 78, 81, 84, 87, 90, 93, 95, 360, 362, 3, 363, 364, 365, 366, 367, 368, 369, 370, 371, 372, 373, 77, 80] (by decide +kernel) (by decide +kernel)
set_option maxRecDepth 100000 in
theorem in_wsL_law_r12 : GoodIn lw_tbl wsL_law_r12 := goodIn_r _ [86, 374, 375, 376, 377, 83, 378, 379, 380, 381, 382, 383, 384, 385, 386, 387, 389, 4, 390, 391, 392, 393, 394, 395] (by decide +kernel) (by decide +kernel)
set_option maxRecDepth 100000 in
theorem in_wsL_law_r13 : GoodIn lw_tbl wsL_law_r13 := goodIn_r _ [396, 397, 398, 399, 400, 401, 402, 403, 404, 405, 406, 407, 408, 409, 410, 414, 411, 412, 52, 413, 415, 416, 417, 418] (by decide +kernel) (by decide +kernel)
set_option maxRecDepth 100000 in
theorem in_wsL_law_r14 : GoodIn lw_tbl wsL_law_r14 := goodIn_r _ [419, 420, 421, 422, 423, 424, 746, 747, 748, 749, 708, 750, 752, 18, 753, 754, 756, 19, 757, 758, 760, 20, 761, 762] (by decide +kernel) (by decide +kernel)
set_option maxRecDepth 100000 in
theorem in_wsL_law_r15 : GoodIn lw_tbl wsL_law_r15 := goodIn_r _ [763, 764, 765, 767, 21, 768, 769, 770, 771, 772, 773, 774, 775, 777, 22, 778, 779, 781, 23, 782, 783, 784, 785, 786] (by decide +kernel) (by decide +kernel)
set_option maxRecDepth 100000 in
theorem in_wsL_law_r16 : GoodIn lw_tbl wsL_law_r16 := goodIn_r _ [788, 24, 789, 790, 791, 792, 793, 794, 795, 796, 797, 798, 799, 800, 801, 802, 803, 804, 805, 806, 807, 808, 809, 810] (by decide +kernel) (by decide +kernel)
set_option maxRecDepth 100000 in
theorem in_wsL_law_r17 : GoodIn lw_tbl wsL_law_r17 := goodIn_r _ [811, 812, 813, 814, 815, 816, 817, 818, 819, 426, 427, 428, 429, 76, 79, 82, 85, 88, 91, 430, 432, 5, 433, 434] (by decide +kernel) (by decide +kernel)
set_option maxRecDepth 100000 in
theorem in_wsL_law_r18 : GoodIn lw_tbl wsL_law_r18 := goodIn_r _ [435, 436, 437, 438, 439, 440, 441, 442, 443, 444, 445, 446, 447, 448, 449, 451, 450, 820, 821, 822, 823, 824, 825, 826] (by decide +kernel) (by decide +kernel)
set_option maxRecDepth 100000 in
theorem in_wsL_law_r19 : GoodIn lw_tbl wsL_law_r19 := goodIn_r _ [452, 453, 454, 455, 120, 827, 828, 829, 830, 831, 832, 833, 456, 457, 458, 459, 834, 835, 836, 837, 460, 461, 462, 463] (by decide +kernel) (by decide +kernel)
set_option maxRecDepth 100000 in
theorem in_wsL_law_r20 : GoodIn lw_tbl wsL_law_r20 := goodIn_r _ [838, 839, 840, 841, 464, 465, 466, 467, 842, 843, 844, 845, 468, 469, 470, 471, 846, 847, 848, 849, 472, 473, 474, 475] (by decide +kernel) (by decide +kernel)
set_option maxRecDepth 100000 in
theorem in_wsL_law_r21 : GoodIn lw_tbl wsL_law_r21 := goodIn_r _ [124, 476, 477, 478, 479, 89, 480, 850, 851, 852, 853, 854, 855, 856, 481, 482, 483, 484, 485, 487, 6, 488, 489, 490] (by decide +kernel) (by decide +kernel)
set_option maxRecDepth 100000 in
theorem in_wsL_law_r22 : GoodIn lw_tbl wsL_law_r22 := goodIn_r _ [857, 858, 859, 860, 861, 863, 25, 864, 491, 492, 493, 494, 122, 495, 496, 497, 498, 92, 865, 866, 867, 868, 499, 500] (by decide +kernel) (by decide +kernel)
set_option maxRecDepth 100000 in
theorem in_wsL_law_r23 : GoodIn lw_tbl wsL_law_r23 := goodIn_r _ [501, 502, 503, 504, 505, 506, 96, 869, 870, 871, 872, 873, 875, 26, 876, 507, 508, 509, 510, 97, 94, 877, 878, 879] (by decide +kernel) (by decide +kernel)
set_option maxRecDepth 100000 in
theorem in_wsL_law_r24 : GoodIn lw_tbl wsL_law_r24 := goodIn_r _ [880, 881, 883, 27, 884, 511, 512, 513, 514, 118, 885, 886, 887, 888, 515, 516, 517, 518, 889, 890, 891, 892, 519, 520] (by decide +kernel) (by decide +kernel)
set_option maxRecDepth 100000 in
theorem in_wsL_law_r25 : GoodIn lw_tbl wsL_law_r25 := goodIn_r _ [521, 522, 893, 894, 895, 896, 897, 899, 28, 900, 523, 524, 525, 526, 527, 528, 53, 529, 530, 531, 532, 533, 534, 535] (by decide +kernel) (by decide +kernel)
set_option maxRecDepth 100000 in
theorem in_wsL_law_r26 : GoodIn lw_tbl wsL_law_r26 := goodIn_r _ [536, 537, 538, 539, 540, 541, 901, 902, 903, 904, 905, 907, 29, 908, 909, 910, 911, 912, 914, 30, 915, 916, 917, 918] (by decide +kernel) (by decide +kernel)
set_option maxRecDepth 100000 in
theorem in_wsL_law_r27 : GoodIn lw_tbl wsL_law_r27 := goodIn_r _ [542, 543, 544, 545, 546, 548, 7, 549, 550, 552, 8, 553, 554, 556, 9, 557, 558, 560, 10, 561, 919, 920, 921, 922] (by decide +kernel) (by decide +kernel)
set_option maxRecDepth 100000 in
theorem in_wsL_law_r28 : GoodIn lw_tbl wsL_law_r28 := goodIn_r _ [923, 925, 31, 926, 927, 929, 32, 930, 562, 563, 564, 565, 566, 567, 568, 569, 570, 931, 932, 933, 934, 935, 937, 33] (by decide +kernel) (by decide +kernel)
set_option maxRecDepth 100000 in
theorem in_wsL_law_r29 : GoodIn lw_tbl wsL_law_r29 := goodIn_r _ [938, 571, 572, 573, 574, 939, 940, 941, 942, 943, 945, 34, 946, 575, 576, 577, 578, 947, 948, 949, 950, 951, 953, 35] (by decide +kernel) (by decide +kernel)
set_option maxRecDepth 100000 in
theorem in_wsL_law_r30 : GoodIn lw_tbl wsL_law_r30 := goodIn_r _ [954, 579, 580, 581, 582, 583, 585, 11, 586, 955, 956, 957, 958, 959, 587, 588, 589, 590, 960, 961, 962, 963, 591, 592] (by decide +kernel) (by decide +kernel)
set_option maxRecDepth 100000 in
theorem in_wsL_law_r31 : GoodIn lw_tbl wsL_law_r31 := goodIn_r _ [593, 594, 964, 965, 966, 967, 595, 596, 597, 598, 968, 969, 970, 971, 599, 600, 601, 602, 603, 972, 973, 974, 975, 976] (by decide +kernel) (by decide +kernel)
set_option maxRecDepth 100000 in
theorem in_wsL_law_r32 : GoodIn lw_tbl wsL_law_r32 := goodIn_r _ [978, 36, 979, 604, 605, 606, 607, 980, 981, 982, 983, 608, 609, 610, 611, 612, 614, 12, 615, 616, 618, 13, 619, 620] (by decide +kernel) (by decide +kernel)
set_option maxRecDepth 100000 in
theorem in_wsL_law_r33 : GoodIn lw_tbl wsL_law_r33 := goodIn_r _ [622, 14, 623, 984, 985, 986, 987, 988, 990, 37, 991, 624, 625, 626, 627, 628, 629, 631, 15, 632, 633, 634, 635, 636] (by decide +kernel) (by decide +kernel)
set_option maxRecDepth 100000 in
theorem in_wsL_law_r34 : GoodIn lw_tbl wsL_law_r34 := goodIn_r _ [637, 638, 992, 993, 994, 995, 996, 998, 38, 999, 1000, 1001, 1002, 1003, 1004, 1005, 1006, 639, 640, 641, 642, 643, 644, 645] (by decide +kernel) (by decide +kernel)
set_option maxRecDepth 100000 in
theorem in_wsL_law_r35 : GoodIn lw_tbl wsL_law_r35 := goodIn_r _ [646, 1007, 1008, 1009, 1010, 647, 648, 649, 650, 652, 653, 655, 16, 656, 164, 1011, 1012, 1013, 1014, 707, 657, 658, 659, 660] (by decide +kernel) (by decide +kernel)
set_option maxRecDepth 100000 in
theorem in_wsL_law_r36 : GoodIn lw_tbl wsL_law_r36 := goodIn_r _ [1015, 1016, 1017, 1018, 661, 662, 663, 664, 1019, 1020, 1021, 1022, 665, 666, 667, 668, 1023, 1024, 1025, 1026, 669, 670, 671, 672] (by decide +kernel) (by decide +kernel)
set_option maxRecDepth 100000 in
theorem in_wsL_law_r37 : GoodIn lw_tbl wsL_law_r37 := goodIn_r _ [673, 674, 675, 1027, 1028, 1029, 1030, 710, 1031, 1033, 39, 1034, 1035, 1036, 1037, 676, 677, 678, 679, 165, 1038, 1039, 1040, 1041] (by decide +kernel) (by decide +kernel)
set_option maxRecDepth 100000 in
theorem in_wsL_law_r38 : GoodIn lw_tbl wsL_law_r38 := goodIn_r _ [702, 680, 681, 682, 683, 1042, 1043, 1044, 1045, 684, 685, 686, 687, 688, 689, 690, 691, 1046, 1047, 1048, 1049] (by decide +kernel) (by decide +kernel)
set_option maxRecDepth 100000 in
theorem in_X1 : ∀ w ∈ wsX10, w ∈ lw_tbl := by decide +kernel
set_option maxRecDepth 100000 in
theorem in_X2 : ∀ w ∈ wsX20, w ∈ lw_tbl := by decide +kernel
set_option maxRecDepth 100000 in
theorem in_X3 : ∀ w ∈ wsX30, w ∈ lw_tbl := by decide +kernel
set_option maxRecDepth 100000 in
theorem in_X4 : ∀ w ∈ wsX40, w ∈ lw_tbl := by decide +kernel
set_option maxRecDepth 100000 in
theorem in_X5 : ∀ w ∈ wsX50, w ∈ lw_tbl := by decide +kernel
theorem wsL_law_in : ∀ w ∈ wsL_law, w ∈ lw_tbl := (fun w h => (List.mem_append.mp h).elim ((fun w h => (List.mem_append.mp h).elim ((fun w h => (List.mem_append.mp h).elim ((fun w h => (List.mem_append.mp h).elim ((fun w h => (List.mem_append.mp h).elim ((fun w h => (List.mem_append.mp h).elim ((fun w h => (List.mem_append.mp h).elim ((fun w h => (in_wsL_law_r1 w h).1) w) ((fun w h => (List.mem_append.mp h).elim ((fun w h => (in_wsL_law_r2 w h).1) w) ((fun w h => (List.mem_append.mp h).elim ((fun w h => (in_wsL_law_r3 w h).1) w) ((fun w h => (List.mem_append.mp h).elim ((fun w h => (in_wsL_law_r4 w h).1) w) ((fun w h => (List.mem_append.mp h).elim ((fun w h => (in_wsL_law_r5 w h).1) w) ((fun w h => (List.mem_append.mp h).elim ((fun w h => (in_wsL_law_r6 w h).1) w) ((fun w h => (List.mem_append.mp h).elim ((fun w h => (in_wsL_law_r7 w h).1) w) ((fun w h => (List.mem_append.mp h).elim ((fun w h => (in_wsL_law_r8 w h).1) w) ((fun w h => (List.mem_append.mp h).elim ((fun w h => (in_wsL_law_r9 w h).1) w) ((fun w h => (List.mem_append.mp h).elim ((fun w h => (in_wsL_law_r10 w h).1) w) ((fun w h => (List.mem_append.mp h).elim ((fun w h => (in_wsL_law_r11 w h).1) w) ((fun w h => (List.mem_append.mp h).elim ((fun w h => (in_wsL_law_r12 w h).1) w) ((fun w h => (List.mem_append.mp h).elim ((fun w h => (in_wsL_law_r13 w h).1) w) ((fun w h => (List.mem_append.mp h).elim ((fun w h => (in_wsL_law_r14 w h).1) w) ((fun w h => (List.mem_append.mp h).elim ((fun w h => (in_wsL_law_r15 w h).1) w) ((fun w h => (List.mem_append.mp h).elim ((fun w h => (in_wsL_law_r16 w h).1) w) ((fun w h => (List.mem_append.mp h).elim ((fun w h => (in_wsL_law_r17 w h).1) w) ((fun w h => (List.mem_append.mp h).elim ((fun w h => (in_wsL_law_r18 w h).1) w) ((fun w h => (List.mem_append.mp h).elim ((fun w h => (in_wsL_law_r19 w h).1) w) ((fun w h => (List.mem_append.mp h).elim ((fun w h => (in_wsL_law_r20 w h).1) w) ((fun w h => (List.mem_append.mp h).elim ((fun w h => (in_wsL_law_r21 w h).1) w) ((fun w h => (List.mem_append.mp h).elim ((fun w h => (in_wsL_law_r22 w h).1) w) ((fun w h => (List.mem_append.mp h).elim ((fun w h => (in_wsL_law_r23 w h).1) w) ((fun w h => (List.mem_append.mp h).elim ((fun w h => (in_wsL_law_r24 w h).1) w) ((fun w h => (List.mem_append.mp h).elim ((fun w h => (in_wsL_law_r25 w h).1) w) ((fun w h => (List.mem_append.mp h).elim ((fun w h => (in_wsL_law_r26 w h).1) w) ((fun w h => (List.mem_append.mp h).elim ((fun w h => (in_wsL_law_r27 w h).1) w) ((fun w h => (List.mem_append.mp h).elim ((fun w h => (in_wsL_law_r28 w h).1) w) ((fun w h => (List.mem_append.mp h).elim ((fun w h => (in_wsL_law_r29 w h).1) w) ((fun w h => (List.mem_append.mp h).elim ((fun w h => (in_wsL_law_r30 w h).1) w) ((fun w h => (List.mem_append.mp h).elim ((fun w h => (in_wsL_law_r31 w h).1) w) ((fun w h => (List.mem_append.mp h).elim ((fun w h => (in_wsL_law_r32 w h).1) w) ((fun w h => (List.mem_append.mp h).elim ((fun w h => (in_wsL_law_r33 w h).1) w) ((fun w h => (List.mem_append.mp h).elim ((fun w h => (in_wsL_law_r34 w h).1) w) ((fun w h => (List.mem_append.mp h).elim ((fun w h => (in_wsL_law_r35 w h).1) w) ((fun w h => (List.mem_append.mp h).elim ((fun w h => (in_wsL_law_r36 w h).1) w) ((fun w h => (List.mem_append.mp h).elim ((fun w h => (in_wsL_law_r37 w h).1) w) ((fun w h => (in_wsL_law_r38 w h).1) w)) w)) w)) w)) w)) w)) w)) w)) w)) w)) w)) w)) w)) w)) w)) w)) w)) w)) w)) w)) w)) w)) w)) w)) w)) w)) w)) w)) w)) w)) w)) w)) w)) w)) w)) w)) w)) w) (in_X4 w)) w) (in_X5 w)) w) (in_X1 w)) w) (in_X2 w)) w) (in_X3 w)) w) ((fun _ h => absurd h List.not_mem_nil) w))
theorem goodIn_up {a b ws : List Cond} (h : ∀ w ∈ a, w ∈ b) (g : GoodIn a ws) : GoodIn b ws := fun w hw => ⟨h w (g w hw).1, (g w hw).2⟩
