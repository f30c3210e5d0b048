set_option maxRecDepth 20000 in
theorem ggL_law_X5_init : GoodIn wsL_law wsX5_init := goodIn_r _ [6, 7, 8, 9, 10, 11, 12, 13, 14, 15, 16, 17, 18, 19, 20, 21, 22, 23, 24, 25, 26, 27, 28, 29, 30, 31, 32, 33, 34, 35, 36, 37, 38, 39, 40, 41, 42, 43, 44, 45, 46, 47, 48, 49, 50, 51, 52, 53, 54, 55, 56, 57, 58, 59, 60, 61, 62, 63, 64, 65, 66, 67, 68, 69, 70, 71, 340, 341, 342, 343, 344, 345, 346, 347, 348, 349, 350, 351, 352, 353, 354, 355, 356, 357, 358, 359, 360, 361, 362, 363, 364, 365, 366, 367, 368, 369] (by decide +kernel) (by decide +kernel)
set_option maxRecDepth 20000 in
theorem gL_law_X5_init : GoodIn wsL_law (wsX5_init) := ggL_law_X5_init
set_option maxRecDepth 20000 in
theorem ggL_law_L_cell : GoodIn wsL_law wsL_cell := goodIn_r _ [75] (by decide +kernel) (by decide +kernel)
set_option maxRecDepth 20000 in
theorem gL_law_L_cell : GoodIn wsL_law (va_wsS RL 118 yL_cell wsL_cell) := goodIn_app (goodIn_of _ (by decide +kernel)) ggL_law_L_cell
set_option maxRecDepth 20000 in
theorem gc_wsL_act_r1 : GoodIn wsL_law (.code yL_act cL_act 10 (some .int) :: wsL_act_r1) := goodIn_r _ [78, 79, 80, 74, 81, 82, 83, 84, 85, 2, 86, 22, 10, 87, 21, 88, 89, 90, 91, 92, 93, 45, 94, 95, 96] (by decide +kernel) (by decide +kernel)
set_option maxRecDepth 20000 in
theorem gc_wsL_act_r2 : GoodIn wsL_law wsL_act_r2 := goodIn_r _ [97, 98, 99, 100, 101, 102, 103, 104, 105, 30, 106, 107, 108, 109, 110, 111, 112, 113, 114, 3, 115, 116, 117, 118] (by decide +kernel) (by decide +kernel)
set_option maxRecDepth 20000 in
theorem gc_wsL_act_r3 : GoodIn wsL_law wsL_act_r3 := goodIn_r _ [119, 120, 11, 121, 122, 123, 124, 125, 126, 127, 128, 129, 130, 18, 131, 17, 132, 133, 39, 38, 40, 134, 135, 136] (by decide +kernel) (by decide +kernel)
set_option maxRecDepth 20000 in
theorem gc_wsL_act_r4 : GoodIn wsL_law wsL_act_r4 := goodIn_r _ [137, 138, 139, 140, 141, 142, 143, 144, 145, 146, 147, 148, 149, 150, 151, 152, 153, 154, 155, 156, 157, 158, 159, 160] (by decide +kernel) (by decide +kernel)
set_option maxRecDepth 20000 in
theorem gc_wsL_act_r5 : GoodIn wsL_law wsL_act_r5 := goodIn_r _ [161, 26, 162, 25, 163, 164, 50, 165, 166, 167, 168, 14, 169, 170, 171, 41, 172, 29, 173, 174, 60, 175, 176, 177] (by decide +kernel) (by decide +kernel)
set_option maxRecDepth 20000 in
theorem gc_wsL_act_r6 : GoodIn wsL_law wsL_act_r6 := goodIn_r _ [178, 179, 180, 181, 182, 183, 184, 185, 186, 187, 188, 189, 190, 191, 192, 193, 194, 195, 196, 197, 198, 199, 200, 201] (by decide +kernel) (by decide +kernel)
set_option maxRecDepth 20000 in
theorem gc_wsL_act_r7 : GoodIn wsL_law wsL_act_r7 := goodIn_r _ [202, 203, 204, 52, 53, 205, 206, 207, 208, 12, 34, 209, 210, 211, 61, 62, 64, 63, 212, 33, 213, 214, 68, 69] (by decide +kernel) (by decide +kernel)
set_option maxRecDepth 20000 in
theorem gc_wsL_act_r8 : GoodIn wsL_law wsL_act_r8 := goodIn_r _ [70, 71, 215, 216, 217, 55, 54, 218, 219, 220, 221, 222, 223, 224, 225, 226, 227, 228, 229, 230, 231, 232, 233, 234] (by decide +kernel) (by decide +kernel)
set_option maxRecDepth 20000 in
theorem gc_wsL_act_r9 : GoodIn wsL_law wsL_act_r9 := goodIn_r _ [235, 236, 237, 238, 239, 240, 241, 242, 243, 244, 245, 246, 247, 248, 249, 250, 251, 252, 253, 254, 255, 256, 257, 258] (by decide +kernel) (by decide +kernel)
set_option maxRecDepth 20000 in
theorem gc_wsL_act_r10 : GoodIn wsL_law wsL_act_r10 := goodIn_r _ [259, 260, 261, 262, 263, 264, 265, 266, 267, 268, 269, 270, 271, 272, 273, 274, 275, 276, 277, 278, 279, 280, 281, 282] (by decide +kernel) (by decide +kernel)
set_option maxRecDepth 20000 in
theorem gc_wsL_act_r11 : GoodIn wsL_law wsL_act_r11 := goodIn_r _ [283, 284, 285, 286, 287, 288, 49, 51] (by decide +kernel) (by decide +kernel)
set_option maxRecDepth 20000 in
theorem ggL_law_L_act : GoodIn wsL_law wsL_act := goodIn_ca (goodIn_ca (goodIn_ca (goodIn_ca (goodIn_ca (goodIn_ca (goodIn_ca (goodIn_ca (goodIn_ca (goodIn_ca gc_wsL_act_r1 (goodIn_app gc_wsL_act_r2 (goodIn_app gc_wsL_act_r3 (goodIn_app gc_wsL_act_r4 (goodIn_app gc_wsL_act_r5 (goodIn_app gc_wsL_act_r6 (goodIn_app gc_wsL_act_r7 (goodIn_app gc_wsL_act_r8 (goodIn_app gc_wsL_act_r9 (goodIn_app gc_wsL_act_r10 gc_wsL_act_r11)))))))))) (goodIn_sub inlX5 (by decide +kernel))) (goodIn_sub inlX2 (by decide +kernel))) (goodIn_sub inlX4 (by decide +kernel))) (goodIn_sub inlX0 (by decide +kernel))) (goodIn_sub inlX1 (by decide +kernel))) (goodIn_sub inlX3 (by decide +kernel))) (goodIn_sub (fun _ h => List.mem_append_left _ (List.mem_append_left _ (List.mem_append_right _ h))) (by decide +kernel))) (goodIn_sub (fun _ h => List.mem_append_left _ (List.mem_append_right _ h)) (by decide +kernel))) (goodIn_sub (fun _ h => List.mem_append_right _ h) (by decide +kernel))
set_option maxRecDepth 20000 in
theorem gL_law_L_act : GoodIn wsL_law (va_wsS RL 122 yL_act wsL_act) := goodIn_app (goodIn_of _ (by decide +kernel)) ggL_law_L_act
set_option maxRecDepth 20000 in
theorem ggL_law_L_areAlike : GoodIn wsL_law wsL_areAlike := goodIn_ca (goodIn_r _ [291, 292, 293, 294, 2, 295, 10, 296, 297, 298, 299, 12, 83, 84, 85, 86, 22, 87, 21, 88, 89, 90, 91, 92, 93, 45, 94, 95, 96, 97, 98, 99, 100, 101, 300, 301, 74, 302, 137, 303, 304, 305, 306, 109, 110, 307, 308, 309, 310, 14, 142, 143, 144, 311, 312, 313, 314, 26, 162, 25, 163, 164, 50, 315, 316, 317, 318, 30, 106, 107, 108, 229, 29, 230, 231, 60, 62, 61, 102, 103, 104, 105, 340, 341, 342, 343, 344, 345, 346, 347, 348, 353, 354, 355, 356, 357, 358, 359, 360, 361, 362, 363, 364, 365] (by decide +kernel) (by decide +kernel)) (goodIn_sub (fun _ h => List.mem_append_left _ (List.mem_append_left _ (List.mem_append_right _ h))) (by decide +kernel))
set_option maxRecDepth 20000 in
theorem gL_law_L_areAlike : GoodIn wsL_law (va_wsS RL 125 yL_areAlike wsL_areAlike) := goodIn_app (goodIn_of _ (by decide +kernel)) ggL_law_L_areAlike
set_option maxRecDepth 20000 in
theorem ggL_law_L_low : GoodIn wsL_law wsL_low := goodIn_r _ [81, 82] (by decide +kernel) (by decide +kernel)
set_option maxRecDepth 20000 in
theorem gL_law_L_low : GoodIn wsL_law (va_wsS RL 54 yL_low wsL_low) := goodIn_app (goodIn_of _ (by decide +kernel)) ggL_law_L_low
set_option maxRecDepth 20000 in
theorem ggL_law_L_areSeatsSo : GoodIn wsL_law wsL_areSeatsSo := goodIn_ca (goodIn_ca (goodIn_r _ [321, 315, 316, 317, 2, 318, 30, 106, 107, 108, 109, 110, 229, 29, 230, 231, 60, 62, 61, 102, 103, 104, 105, 322, 323, 324, 325, 34, 326, 33, 327, 328, 68, 69, 70, 71, 329, 330, 331, 332, 264, 265, 266, 267, 311, 312, 313, 314, 26, 142, 143, 144, 162, 25, 163, 164, 50, 292, 293, 294, 295, 10, 333, 334, 335, 336, 119, 120, 252, 253, 254, 340, 341, 342, 343, 344, 345, 346, 347, 348, 361, 362, 363, 364, 365, 366, 367, 368, 369, 354, 355, 356, 357, 358, 359, 360] (by decide +kernel) (by decide +kernel)) (goodIn_sub (fun _ h => List.mem_append_left _ (List.mem_append_left _ (List.mem_append_right _ h))) (by decide +kernel))) (goodIn_sub (fun _ h => List.mem_append_left _ (List.mem_append_right _ h)) (by decide +kernel))
set_option maxRecDepth 20000 in
theorem gL_law_L_areSeatsSo : GoodIn wsL_law (va_wsS RL 129 yL_areSeatsSo wsL_areSeatsSo) := goodIn_app (goodIn_of _ (by decide +kernel)) ggL_law_L_areSeatsSo
set_option maxRecDepth 20000 in
theorem ggL_law_L_isQueueSo : GoodIn wsL_law wsL_isQueueSo := goodIn_ca (goodIn_r _ [339, 300, 301, 74, 302, 137, 303, 304, 305, 2, 306, 109, 110, 22, 87, 21, 88, 89, 90, 91, 92, 93, 45, 94, 95, 96, 97, 98, 99, 100, 101, 307, 308, 309, 310, 14, 142, 143, 144, 311, 312, 313, 314, 26, 162, 25, 163, 164, 50, 83, 84, 85, 86, 10, 296, 297, 298, 299, 12, 340, 341, 342, 343, 344, 345, 346, 347, 348, 353, 354, 355, 356, 357, 358, 359, 360] (by decide +kernel) (by decide +kernel)) (goodIn_sub (fun _ h => List.mem_append_left _ (List.mem_append_left _ (List.mem_append_right _ h))) (by decide +kernel))
set_option maxRecDepth 20000 in
theorem gL_law_L_isQueueSo : GoodIn wsL_law (va_wsS RL 133 yL_isQueueSo wsL_isQueueSo) := goodIn_app (goodIn_of _ (by decide +kernel)) ggL_law_L_isQueueSo
set_option maxRecDepth 20000 in
theorem ggL_law_X5_time : GoodIn wsL_law wsX5_time := goodIn_r _ [295, 10, 340, 341, 342, 343, 344, 345, 346, 347, 348] (by decide +kernel) (by decide +kernel)
set_option maxRecDepth 20000 in
theorem gL_law_X5_time : GoodIn wsL_law (wsV RL 90 RX5 yX5_time wsX5_time) := goodIn_app (goodIn_of _ (by decide +kernel)) ggL_law_X5_time
set_option maxRecDepth 20000 in
theorem ggL_law_X5_pass : GoodIn wsL_law wsX5_pass := goodIn_ca (goodIn_ca (goodIn_r _ [194, 119, 120, 129, 130, 10, 26, 162, 25, 163, 164, 50, 165, 166, 167, 2, 168, 14, 18, 30, 169, 17, 170, 171, 41, 172, 29, 173, 174, 60, 175, 176, 177, 340, 341, 342, 343, 344, 345, 346, 347, 348, 354, 355, 356, 357, 358, 359, 360, 349, 350, 351, 352, 361, 362, 363, 364, 365] (by decide +kernel) (by decide +kernel)) (goodIn_sub (fun _ h => List.mem_append_left _ (List.mem_append_right _ h)) (by decide +kernel))) (goodIn_sub (fun _ h => List.mem_append_right _ h) (by decide +kernel))
set_option maxRecDepth 20000 in
theorem gL_law_X5_pass : GoodIn wsL_law (wsV RL 8 RX5 yX5_pass wsX5_pass) := goodIn_app (goodIn_of _ (by decide +kernel)) ggL_law_X5_pass
set_option maxRecDepth 20000 in
theorem ggL_law_X5_spent : GoodIn wsL_law wsX5_spent := goodIn_ca (goodIn_r _ [310, 14, 142, 143, 2, 144, 109, 110, 340, 341, 342, 343, 344, 345, 346, 347, 348] (by decide +kernel) (by decide +kernel)) (goodIn_sub (fun _ h => List.mem_append_left _ (List.mem_append_left _ (List.mem_append_right _ h))) (by decide +kernel))
set_option maxRecDepth 20000 in
theorem gL_law_X5_spent : GoodIn wsL_law (wsV RL 98 RX5 yX5_spent wsX5_spent) := goodIn_app (goodIn_of _ (by decide +kernel)) ggL_law_X5_spent
set_option maxRecDepth 20000 in
theorem ggL_law_X5_takings : GoodIn wsL_law wsX5_takings := goodIn_r _ [299, 12, 340, 341, 342, 343, 344, 345, 346, 347, 348] (by decide +kernel) (by decide +kernel)
set_option maxRecDepth 20000 in
theorem gL_law_X5_takings : GoodIn wsL_law (wsV RL 93 RX5 yX5_takings wsX5_takings) := goodIn_app (goodIn_of _ (by decide +kernel)) ggL_law_X5_takings
theorem dL_law_0 : decode cL_law 0 = .ok (.new 9, 3) := by decide +kernel
theorem dL_law_3 : decode cL_law 3 = .ok (.dup, 1) := by decide +kernel
theorem dL_law_4 : decode cL_law 4 = .ok (.invokespecial 117, 3) := by decide +kernel
theorem dL_law_7 : decode cL_law 7 = .ok (.astore_n 1, 1) := by decide +kernel
theorem dL_law_8 : decode cL_law 8 = .ok (.new 9, 3) := by decide +kernel
theorem dL_law_11 : decode cL_law 11 = .ok (.dup, 1) := by decide +kernel
theorem dL_law_12 : decode cL_law 12 = .ok (.invokespecial 117, 3) := by decide +kernel
theorem dL_law_15 : decode cL_law 15 = .ok (.astore_n 2, 1) := by decide +kernel
theorem dL_law_16 : decode cL_law 16 = .ok (.iconst 0, 1) := by decide +kernel
theorem dL_law_17 : decode cL_law 17 = .ok (.istore_n 3, 1) := by decide +kernel
theorem dL_law_18 : decode cL_law 18 = .ok (.iload_n 3, 1) := by decide +kernel
theorem dL_law_19 : decode cL_law 19 = .ok (.bipush 110, 2) := by decide +kernel
theorem dL_law_21 : decode cL_law 21 = .ok (.if_icmp .ge 94, 3) := by decide +kernel
theorem dL_law_24 : decode cL_law 24 = .ok (.aload_n 0, 1) := by decide +kernel
theorem dL_law_25 : decode cL_law 25 = .ok (.iload_n 3, 1) := by decide +kernel
theorem dL_law_26 : decode cL_law 26 = .ok (.invokestatic 118, 3) := by decide +kernel
theorem dL_law_29 : decode cL_law 29 = .ok (.istore 4, 2) := by decide +kernel
theorem dL_law_31 : decode cL_law 31 = .ok (.aload_n 1, 1) := by decide +kernel
theorem dL_law_32 : decode cL_law 32 = .ok (.iload 4, 2) := by decide +kernel
theorem dL_law_34 : decode cL_law 34 = .ok (.invokestatic 122, 3) := by decide +kernel
theorem dL_law_37 : decode cL_law 37 = .ok (.istore 5, 2) := by decide +kernel
theorem dL_law_39 : decode cL_law 39 = .ok (.iload 5, 2) := by decide +kernel
theorem dL_law_41 : decode cL_law 41 = .ok (.ldc 16, 2) := by decide +kernel
theorem dL_law_43 : decode cL_law 43 = .ok (.if_icmp .eq 14, 3) := by decide +kernel
theorem dL_law_46 : decode cL_law 46 = .ok (.aload_n 2, 1) := by decide +kernel
theorem dL_law_47 : decode cL_law 47 = .ok (.iload 4, 2) := by decide +kernel
theorem dL_law_49 : decode cL_law 49 = .ok (.invokestatic 122, 3) := by decide +kernel
theorem dL_law_52 : decode cL_law 52 = .ok (.iload 5, 2) := by decide +kernel
theorem dL_law_54 : decode cL_law 54 = .ok (.if_icmp .ne 11, 3) := by decide +kernel
theorem dL_law_57 : decode cL_law 57 = .ok (.aload_n 1, 1) := by decide +kernel
theorem dL_law_58 : decode cL_law 58 = .ok (.aload_n 2, 1) := by decide +kernel
theorem dL_law_59 : decode cL_law 59 = .ok (.invokestatic 125, 3) := by decide +kernel
theorem dL_law_62 : decode cL_law 62 = .ok (.ifCond .ne 5, 3) := by decide +kernel
theorem dL_law_65 : decode cL_law 65 = .ok (.iconst 0, 1) := by decide +kernel
theorem dL_law_66 : decode cL_law 66 = .ok (.ireturn, 1) := by decide +kernel
theorem dL_law_67 : decode cL_law 67 = .ok (.iload_n 3, 1) := by decide +kernel
theorem dL_law_68 : decode cL_law 68 = .ok (.bipush 7, 2) := by decide +kernel
theorem dL_law_70 : decode cL_law 70 = .ok (.irem, 1) := by decide +kernel
theorem dL_law_71 : decode cL_law 71 = .ok (.bipush 6, 2) := by decide +kernel
theorem dL_law_73 : decode cL_law 73 = .ok (.if_icmp .ne 20, 3) := by decide +kernel
theorem dL_law_76 : decode cL_law 76 = .ok (.aload_n 1, 1) := by decide +kernel
theorem dL_law_77 : decode cL_law 77 = .ok (.iconst 1, 1) := by decide +kernel
theorem dL_law_78 : decode cL_law 78 = .ok (.iload 4, 2) := by decide +kernel
theorem dL_law_80 : decode cL_law 80 = .ok (.iconst 5, 1) := by decide +kernel
theorem dL_law_81 : decode cL_law 81 = .ok (.ishr, 1) := by decide +kernel
theorem dL_law_82 : decode cL_law 82 = .ok (.iconst 4, 1) := by decide +kernel
theorem dL_law_83 : decode cL_law 83 = .ok (.invokestatic 54, 3) := by decide +kernel
theorem dL_law_86 : decode cL_law 86 = .ok (.iadd, 1) := by decide +kernel
theorem dL_law_87 : decode cL_law 87 = .ok (.invokestatic 129, 3) := by decide +kernel
theorem dL_law_90 : decode cL_law 90 = .ok (.ifCond .eq 17, 3) := by decide +kernel
theorem dL_law_93 : decode cL_law 93 = .ok (.iload_n 3, 1) := by decide +kernel
theorem dL_law_94 : decode cL_law 94 = .ok (.iconst 5, 1) := by decide +kernel
theorem dL_law_95 : decode cL_law 95 = .ok (.irem, 1) := by decide +kernel
theorem dL_law_96 : decode cL_law 96 = .ok (.iconst 4, 1) := by decide +kernel
theorem dL_law_97 : decode cL_law 97 = .ok (.if_icmp .ne 12, 3) := by decide +kernel
theorem dL_law_100 : decode cL_law 100 = .ok (.aload_n 1, 1) := by decide +kernel
theorem dL_law_101 : decode cL_law 101 = .ok (.invokestatic 133, 3) := by decide +kernel
theorem dL_law_104 : decode cL_law 104 = .ok (.ifCond .ne 5, 3) := by decide +kernel
theorem dL_law_107 : decode cL_law 107 = .ok (.iconst 0, 1) := by decide +kernel
theorem dL_law_108 : decode cL_law 108 = .ok (.ireturn, 1) := by decide +kernel
theorem dL_law_109 : decode cL_law 109 = .ok (.iinc 3 1, 3) := by decide +kernel
theorem dL_law_112 : decode cL_law 112 = .ok (.goto (-94), 3) := by decide +kernel
theorem dL_law_115 : decode cL_law 115 = .ok (.aload_n 1, 1) := by decide +kernel
theorem dL_law_116 : decode cL_law 116 = .ok (.invokevirtual 90, 3) := by decide +kernel
theorem dL_law_119 : decode cL_law 119 = .ok (.sipush 9900, 3) := by decide +kernel
theorem dL_law_122 : decode cL_law 122 = .ok (.if_icmp .le 5, 3) := by decide +kernel
theorem dL_law_125 : decode cL_law 125 = .ok (.iconst 1, 1) := by decide +kernel
theorem dL_law_126 : decode cL_law 126 = .ok (.ireturn, 1) := by decide +kernel
theorem dL_law_127 : decode cL_law 127 = .ok (.aload_n 1, 1) := by decide +kernel
theorem dL_law_128 : decode cL_law 128 = .ok (.bipush 31, 2) := by decide +kernel
theorem dL_law_130 : decode cL_law 130 = .ok (.invokevirtual 8, 3) := by decide +kernel
theorem dL_law_133 : decode cL_law 133 = .ok (.istore_n 3, 1) := by decide +kernel
theorem dL_law_134 : decode cL_law 134 = .ok (.iconst 0, 1) := by decide +kernel
theorem dL_law_135 : decode cL_law 135 = .ok (.istore 4, 2) := by decide +kernel
theorem dL_law_137 : decode cL_law 137 = .ok (.iconst 0, 1) := by decide +kernel
theorem dL_law_138 : decode cL_law 138 = .ok (.istore 5, 2) := by decide +kernel
theorem dL_law_140 : decode cL_law 140 = .ok (.iload 5, 2) := by decide +kernel
theorem dL_law_142 : decode cL_law 142 = .ok (.bipush 8, 2) := by decide +kernel
theorem dL_law_144 : decode cL_law 144 = .ok (.if_icmp .ge 20, 3) := by decide +kernel
theorem dL_law_147 : decode cL_law 147 = .ok (.iload 4, 2) := by decide +kernel
theorem dL_law_149 : decode cL_law 149 = .ok (.aload_n 1, 1) := by decide +kernel
theorem dL_law_150 : decode cL_law 150 = .ok (.iload 5, 2) := by decide +kernel
theorem dL_law_152 : decode cL_law 152 = .ok (.invokevirtual 98, 3) := by decide +kernel
theorem dL_law_155 : decode cL_law 155 = .ok (.iadd, 1) := by decide +kernel
theorem dL_law_156 : decode cL_law 156 = .ok (.istore 4, 2) := by decide +kernel
theorem dL_law_158 : decode cL_law 158 = .ok (.iinc 5 1, 3) := by decide +kernel
theorem dL_law_161 : decode cL_law 161 = .ok (.goto (-21), 3) := by decide +kernel
theorem dL_law_164 : decode cL_law 164 = .ok (.iload_n 3, 1) := by decide +kernel
theorem dL_law_165 : decode cL_law 165 = .ok (.ifCond .lt 16, 3) := by decide +kernel
theorem dL_law_168 : decode cL_law 168 = .ok (.iload 4, 2) := by decide +kernel
theorem dL_law_170 : decode cL_law 170 = .ok (.aload_n 1, 1) := by decide +kernel
theorem dL_law_171 : decode cL_law 171 = .ok (.invokevirtual 93, 3) := by decide +kernel
theorem dL_law_174 : decode cL_law 174 = .ok (.if_icmp .ne 7, 3) := by decide +kernel
theorem dL_law_177 : decode cL_law 177 = .ok (.iconst 1, 1) := by decide +kernel
theorem dL_law_178 : decode cL_law 178 = .ok (.goto 4, 3) := by decide +kernel
theorem dL_law_181 : decode cL_law 181 = .ok (.iconst 0, 1) := by decide +kernel
theorem dL_law_182 : decode cL_law 182 = .ok (.ireturn, 1) := by decide +kernel

