theorem mem_r {big : List Cond} (ws : List Cond) (ps : List Nat) (hp : ws = ps.filterMap (fun i => big[i]?)) : ∀ w ∈ ws, w ∈ big := by
  intro w hw
  rw [hp] at hw
  obtain ⟨i, -, hi⟩ := List.mem_filterMap.mp hw
  exact List.mem_of_getElem? hi
theorem app_in {a b big : List Cond} (ha : ∀ w ∈ a, w ∈ big) (hb : ∀ w ∈ b, w ∈ big) : ∀ w ∈ a ++ b, w ∈ big := fun w h => (List.mem_append.mp h).elim (ha w) (hb w)
set_option maxRecDepth 100000 in
theorem li_wsL_law_r1 : ∀ w ∈ wsL_law_r1, w ∈ lw_tbl := mem_r _ [94, 95, 81, 711, 712, 91, 96, 97, 98, 99, 100, 101, 128, 286, 102, 103, 82, 288, 129, 130, 83, 289, 142, 143] (by decide +kernel)
set_option maxRecDepth 100000 in
theorem li_wsL_law_r2 : ∀ w ∈ wsL_law_r2, w ∈ lw_tbl := mem_r _ [84, 290, 152, 153, 85, 291, 183, 184, 87, 292, 203, 204, 88, 293, 105, 106, 107, 108, 109, 110, 111, 112, 114, 131] (by decide +kernel)
set_option maxRecDepth 100000 in
theorem li_wsL_law_r3 : ∀ w ∈ wsL_law_r3, w ∈ lw_tbl := mem_r _ [132, 133, 134, 135, 144, 145, 146, 147, 148, 154, 155, 156, 157, 163, 164, 165, 166, 160, 161, 86, 162, 167, 186, 187] (by decide +kernel)
set_option maxRecDepth 100000 in
theorem li_wsL_law_r4 : ∀ w ∈ wsL_law_r4, w ∈ lw_tbl := mem_r _ [188, 189, 205, 206, 207, 208, 254, 255, 256, 257, 209, 210, 89, 258, 211, 212, 213, 214, 215, 216, 90, 237, 235, 236] (by decide +kernel)
set_option maxRecDepth 100000 in
theorem li_wsL_law_r5 : ∀ w ∈ wsL_law_r5, w ∈ lw_tbl := mem_r _ [218, 219, 220, 221, 222, 223, 713, 714, 715, 716, 717, 719, 720, 722, 723, 726, 727, 730, 731, 732, 733, 734, 735, 736] (by decide +kernel)
set_option maxRecDepth 100000 in
theorem li_wsL_law_r6 : ∀ w ∈ wsL_law_r6, w ∈ lw_tbl := mem_r _ [739, 740, 741, 742, 743, 745, 311, 312, 313, 314, 287, 315, 317, 0, 318, 826, 827, 828, 829, 718, 319, 320, 321, 322] (by decide +kernel)
set_option maxRecDepth 100000 in
theorem li_wsL_law_r7 : ∀ w ∈ wsL_law_r7, w ∈ lw_tbl := mem_r _ [323, 325, 1, 326, 327, 328, 329, 330, 136, 335, 336, 331, 332, 333, 334, 337, 339, 2, 340, 341, 343, 3, 344, 345] (by decide +kernel)
set_option maxRecDepth 100000 in
theorem li_wsL_law_r8 : ∀ w ∈ wsL_law_r8, w ∈ lw_tbl := mem_r _ [346, 347, 348, 350, 4, 351, 352, 353, 354, 355, 356, 358, 5, 359, 360, 362, 6, 363, 364, 366, 7, 367, 368, 370] (by decide +kernel)
set_option maxRecDepth 100000 in
theorem li_wsL_law_r9 : ∀ w ∈ wsL_law_r9, w ∈ lw_tbl := mem_r _ [8, 371, 372, 374, 9, 375, 376, 377, 378, 379, 380, 381, 382, 383, 384, 385, 386, 387, 388, 389, 390, 391, 392, 393] (by decide +kernel)
set_option maxRecDepth 100000 in
theorem li_wsL_law_r10 : ∀ w ∈ wsL_law_r10, w ∈ lw_tbl := mem_r _ [394, 395, 396, 397, 399, 400, 401, 403, 10, 404, 405, 406, 407, 408, 409, 411, 11, 412, 413, 414, 415, 416, 418, 419] (by decide +kernel)
set_option maxRecDepth 100000 in
theorem li_wsL_law_r11 : ∀ w ∈ wsL_law_r11, w ∈ lw_tbl := mem_r _ [420, 421, 422, 423, 424, 425, 426, 427, 428, 430, 12, 431, 432, 433, 434, 435, 436, 438, 13, 439, 440, 441, 442, 443] (by decide +kernel)
set_option maxRecDepth 100000 in
theorem li_wsL_law_r12 : ∀ w ∈ wsL_law_r12, w ∈ lw_tbl := mem_r _ [444, 445, 446, 447, 448, 449, 450, 451, 452, 168, 453, 454, 455, 456, 458, 460, 459, 92, 457, 461, 462, 463, 464, 465] (by decide +kernel)
set_option maxRecDepth 100000 in
theorem li_wsL_law_r13 : ∀ w ∈ wsL_law_r13, w ∈ lw_tbl := mem_r _ [466, 467, 468, 469, 470, 471, 472, 473, 474, 475, 830, 831, 832, 833, 721, 864, 725, 834, 836, 36, 837, 860, 838, 840] (by decide +kernel)
set_option maxRecDepth 100000 in
theorem li_wsL_law_r14 : ∀ w ∈ wsL_law_r14, w ∈ lw_tbl := mem_r _ [37, 841, 842, 844, 38, 845, 846, 847, 848, 849, 851, 39, 852, 853, 854, 855, 856, 858, 40, 859, 861, 862, 863, 865] (by decide +kernel)
set_option maxRecDepth 100000 in
theorem li_wsL_law_r15 : ∀ w ∈ wsL_law_r15, w ∈ lw_tbl := mem_r _ [866, 867, 868, 869, 870, 871, 872, 873, 874, 875, 876, 877, 879, 41, 880, 881, 883, 42, 884, 885, 886, 887, 888, 889] (by decide +kernel)
set_option maxRecDepth 100000 in
theorem li_wsL_law_r16 : ∀ w ∈ wsL_law_r16, w ∈ lw_tbl := mem_r _ [890, 891, 893, 43, 894, 895, 897, 44, 898, 899, 901, 45, 902, 903, 905, 46, 906, 907, 909, 47, 910, 911, 912, 913] (by decide +kernel)
set_option maxRecDepth 100000 in
theorem li_wsL_law_r17 : ∀ w ∈ wsL_law_r17, w ∈ lw_tbl := mem_r _ [914, 915, 916, 476, 477, 478, 479, 480, 481, 482, 483, 190, 192, 484, 485, 486, 487, 259, 261, 263, 265, 488, 489, 490] (by decide +kernel)
set_option maxRecDepth 100000 in
theorem li_wsL_law_r18 : ∀ w ∈ wsL_law_r18, w ∈ lw_tbl := mem_r _ [491, 492, 493, 494, 496, 14, 693, 695, 35, 696, 503, 505, 15, 506, 507, 508, 509, 510, 511, 512, 513, 514, 515, 516] (by decide +kernel)
set_option maxRecDepth 100000 in
theorem li_wsL_law_r19 : ∀ w ∈ wsL_law_r19, w ∈ lw_tbl := mem_r _ [93, 517, 518, 519, 520, 521, 523, 16, 524, 498, 499, 500, 501, 525, 526, 527, 528, 568, 569, 570, 571, 572, 564, 565] (by decide +kernel)
set_option maxRecDepth 100000 in
theorem li_wsL_law_r20 : ∀ w ∈ wsL_law_r20, w ∈ lw_tbl := mem_r _ [566, 611, 612, 613, 614, 573, 574, 575, 576, 577, 578, 579, 580, 604, 605, 698, 618, 539, 541, 19, 542, 543, 544, 545] (by decide +kernel)
set_option maxRecDepth 100000 in
theorem li_wsL_law_r21 : ∀ w ∈ wsL_law_r21, w ∈ lw_tbl := mem_r _ [546, 619, 620, 621, 622, 623, 624, 626, 28, 627, 639, 628, 630, 29, 631, 632, 633, 634, 635, 636, 637, 224, 638, 640] (by decide +kernel)
set_option maxRecDepth 100000 in
theorem li_wsL_law_r22 : ∀ w ∈ wsL_law_r22, w ∈ lw_tbl := mem_r _ [641, 642, 643, 644, 645, 647, 30, 648, 649, 650, 651, 652, 653, 654, 655, 656, 657, 659, 660, 661, 662, 238, 239, 240] (by decide +kernel)
set_option maxRecDepth 100000 in
theorem li_wsL_law_r23 : ∀ w ∈ wsL_law_r23, w ∈ lw_tbl := mem_r _ [663, 664, 665, 666, 667, 669, 31, 670, 681, 671, 672, 674, 32, 675, 676, 677, 678, 679, 680, 682, 684, 33, 685, 687] (by decide +kernel)
set_option maxRecDepth 100000 in
theorem li_wsL_law_r24 : ∀ w ∈ wsL_law_r24, w ∈ lw_tbl := mem_r _ [688, 581, 692, 548, 563, 533, 532, 534, 535, 537, 18, 538, 549, 551, 20, 552, 553, 554, 556, 21, 557, 558, 559, 561] (by decide +kernel)
set_option maxRecDepth 100000 in
theorem li_wsL_law_r25 : ∀ w ∈ wsL_law_r25, w ∈ lw_tbl := mem_r _ [22, 562, 567, 585, 586, 497, 529, 531, 17, 582, 584, 23, 587, 589, 24, 590, 591, 592, 593, 594, 595, 596, 597, 599] (by decide +kernel)
set_option maxRecDepth 100000 in
theorem li_wsL_law_r26 : ∀ w ∈ wsL_law_r26, w ∈ lw_tbl := mem_r _ [25, 600, 602, 606, 608, 26, 615, 617, 27, 689, 691, 34, 609, 610, 917, 918, 919, 920, 746, 747, 748, 749, 750, 751] (by decide +kernel)
set_option maxRecDepth 100000 in
theorem li_wsL_law_r27 : ∀ w ∈ wsL_law_r27, w ∈ lw_tbl := mem_r _ [752, 724, 921, 923, 48, 924, 728, 933, 934, 935, 936, 729, 925, 927, 49, 928, 929, 931, 50, 932, 937, 939, 51, 940] (by decide +kernel)
set_option maxRecDepth 100000 in
theorem li_wsL_law_r28 : ∀ w ∈ wsL_law_r28, w ∈ lw_tbl := mem_r _ [941, 943, 52, 944, 945, 947, 53, 948, 949, 951, 54, 952, 953, 955, 55, 956, 957, 959, 56, 960, 961, 963, 57, 964] (by decide +kernel)
set_option maxRecDepth 100000 in
theorem li_wsL_law_r29 : ∀ w ∈ wsL_law_r29, w ∈ lw_tbl := mem_r _ [965, 967, 58, 968, 969, 971, 59, 972, 973, 975, 60, 976, 977, 979, 61, 980, 981, 983, 62, 984, 985, 987, 63, 988] (by decide +kernel)
set_option maxRecDepth 100000 in
theorem li_wsL_law_r30 : ∀ w ∈ wsL_law_r30, w ∈ lw_tbl := mem_r _ [989, 991, 64, 992, 993, 995, 65, 996, 997, 998, 1000, 66, 1001, 1002, 1004, 67, 1005, 737, 1006, 1008, 68, 1009, 1010, 1012] (by decide +kernel)
set_option maxRecDepth 100000 in
theorem li_wsL_law_r31 : ∀ w ∈ wsL_law_r31, w ∈ lw_tbl := mem_r _ [69, 1013, 1014, 1016, 70, 1017, 1018, 1020, 71, 1021, 738, 744, 1022, 1024, 72, 1025, 1026, 1028, 73, 1029, 1030, 1032, 74, 1033] (by decide +kernel)
set_option maxRecDepth 100000 in
theorem li_wsL_law_r32 : ∀ w ∈ wsL_law_r32, w ∈ lw_tbl := mem_r _ [1034, 1036, 75, 1037, 1038, 1040, 76, 1041, 1042, 1044, 77, 1045, 1046, 1048, 78, 1049, 1050, 1052, 79, 1053, 699, 700, 701, 702] (by decide +kernel)
set_option maxRecDepth 100000 in
theorem li_wsL_law_r33 : ∀ w ∈ wsL_law_r33, w ∈ lw_tbl := mem_r _ [703, 704, 705, 706, 1054, 1055, 1056, 1057, 707, 708, 709, 710, 1058, 1059, 1060, 1061] (by decide +kernel)
set_option maxRecDepth 100000 in
theorem li_wsX80 : ∀ w ∈ wsX80, w ∈ lw_tbl := mem_r _ [294, 296, 298, 300, 302, 304, 306, 308] (by decide +kernel)
set_option maxRecDepth 100000 in
theorem li_wsX90 : ∀ w ∈ wsX90, w ∈ lw_tbl := mem_r _ [753, 755, 757, 759, 761, 763, 765, 767, 769, 771, 773, 775, 777, 779, 781, 783, 785, 787, 789, 791, 793, 795, 797, 799, 801, 803, 805, 807, 809, 811, 813, 815, 817, 819, 821, 823] (by decide +kernel)
set_option maxRecDepth 100000 in
theorem li_wsX50 : ∀ w ∈ wsX50, w ∈ lw_tbl := mem_r _ [115, 117, 119, 121, 123, 125] (by decide +kernel)
set_option maxRecDepth 100000 in
theorem li_wsX30 : ∀ w ∈ wsX30, w ∈ lw_tbl := mem_r _ [137, 139] (by decide +kernel)
set_option maxRecDepth 100000 in
theorem li_wsX60 : ∀ w ∈ wsX60, w ∈ lw_tbl := mem_r _ [149] (by decide +kernel)
set_option maxRecDepth 100000 in
theorem li_wsX70 : ∀ w ∈ wsX70, w ∈ lw_tbl := mem_r _ [170, 172, 174, 176, 178, 180] (by decide +kernel)
set_option maxRecDepth 100000 in
theorem li_wsX20 : ∀ w ∈ wsX20, w ∈ lw_tbl := mem_r _ [196, 198, 200] (by decide +kernel)
set_option maxRecDepth 100000 in
theorem li_wsX00 : ∀ w ∈ wsX00, w ∈ lw_tbl := mem_r _ [267, 269, 271, 273, 275, 277, 279, 281, 283] (by decide +kernel)
set_option maxRecDepth 100000 in
theorem li_wsX10 : ∀ w ∈ wsX10, w ∈ lw_tbl := mem_r _ [241, 243, 245, 247, 249, 251] (by decide +kernel)
set_option maxRecDepth 100000 in
theorem li_wsX40 : ∀ w ∈ wsX40, w ∈ lw_tbl := mem_r _ [226, 228, 230, 232] (by decide +kernel)
theorem wsL_law_in : ∀ w ∈ wsL_law, w ∈ lw_tbl := (app_in (app_in (app_in (app_in (app_in (app_in (app_in (app_in (app_in (app_in (app_in (app_in li_wsL_law_r1 (app_in li_wsL_law_r2 (app_in li_wsL_law_r3 (app_in li_wsL_law_r4 (app_in li_wsL_law_r5 (app_in li_wsL_law_r6 (app_in li_wsL_law_r7 (app_in li_wsL_law_r8 (app_in li_wsL_law_r9 (app_in li_wsL_law_r10 (app_in li_wsL_law_r11 (app_in li_wsL_law_r12 (app_in li_wsL_law_r13 (app_in li_wsL_law_r14 (app_in li_wsL_law_r15 (app_in li_wsL_law_r16 (app_in li_wsL_law_r17 (app_in li_wsL_law_r18 (app_in li_wsL_law_r19 (app_in li_wsL_law_r20 (app_in li_wsL_law_r21 (app_in li_wsL_law_r22 (app_in li_wsL_law_r23 (app_in li_wsL_law_r24 (app_in li_wsL_law_r25 (app_in li_wsL_law_r26 (app_in li_wsL_law_r27 (app_in li_wsL_law_r28 (app_in li_wsL_law_r29 (app_in li_wsL_law_r30 (app_in li_wsL_law_r31 (app_in li_wsL_law_r32 li_wsL_law_r33)))))))))))))))))))))))))))))))) li_wsX80) li_wsX90) li_wsX50) li_wsX30) li_wsX60) li_wsX70) li_wsX20) li_wsX00) li_wsX10) li_wsX40) (fun _ h => absurd h List.not_mem_nil))
