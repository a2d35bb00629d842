theorem dX3_init_0 : decode cX3_init 0 = .ok (.aload_n 0, 1) := by decide +kernel
theorem dX3_init_1 : decode cX3_init 1 = .ok (.invokespecial 1, 3) := by decide +kernel
theorem dX3_init_4 : decode cX3_init 4 = .ok (.aload_n 0, 1) := by decide +kernel
theorem dX3_init_5 : decode cX3_init 5 = .ok (.iconst 1, 1) := by decide +kernel
theorem dX3_init_6 : decode cX3_init 6 = .ok (.putfield 7, 3) := by decide +kernel
theorem dX3_init_9 : decode cX3_init 9 = .ok (.aload_n 0, 1) := by decide +kernel
theorem dX3_init_10 : decode cX3_init 10 = .ok (.bipush 10, 2) := by decide +kernel
theorem dX3_init_12 : decode cX3_init 12 = .ok (.newarray .boolean, 2) := by decide +kernel
theorem dX3_init_14 : decode cX3_init 14 = .ok (.putfield 13, 3) := by decide +kernel
theorem dX3_init_17 : decode cX3_init 17 = .ok (.aload_n 0, 1) := by decide +kernel
theorem dX3_init_18 : decode cX3_init 18 = .ok (.bipush 10, 2) := by decide +kernel
theorem dX3_init_20 : decode cX3_init 20 = .ok (.newarray .int, 2) := by decide +kernel
theorem dX3_init_22 : decode cX3_init 22 = .ok (.dup, 1) := by decide +kernel
theorem dX3_init_23 : decode cX3_init 23 = .ok (.iconst 0, 1) := by decide +kernel
theorem dX3_init_24 : decode cX3_init 24 = .ok (.iconst (-1), 1) := by decide +kernel
theorem dX3_init_25 : decode cX3_init 25 = .ok (.iastore, 1) := by decide +kernel
theorem dX3_init_26 : decode cX3_init 26 = .ok (.dup, 1) := by decide +kernel
theorem dX3_init_27 : decode cX3_init 27 = .ok (.iconst 1, 1) := by decide +kernel
theorem dX3_init_28 : decode cX3_init 28 = .ok (.iconst (-1), 1) := by decide +kernel
theorem dX3_init_29 : decode cX3_init 29 = .ok (.iastore, 1) := by decide +kernel
theorem dX3_init_30 : decode cX3_init 30 = .ok (.dup, 1) := by decide +kernel
theorem dX3_init_31 : decode cX3_init 31 = .ok (.iconst 2, 1) := by decide +kernel
theorem dX3_init_32 : decode cX3_init 32 = .ok (.iconst (-1), 1) := by decide +kernel
theorem dX3_init_33 : decode cX3_init 33 = .ok (.iastore, 1) := by decide +kernel
theorem dX3_init_34 : decode cX3_init 34 = .ok (.dup, 1) := by decide +kernel
theorem dX3_init_35 : decode cX3_init 35 = .ok (.iconst 3, 1) := by decide +kernel
theorem dX3_init_36 : decode cX3_init 36 = .ok (.iconst (-1), 1) := by decide +kernel
theorem dX3_init_37 : decode cX3_init 37 = .ok (.iastore, 1) := by decide +kernel
theorem dX3_init_38 : decode cX3_init 38 = .ok (.dup, 1) := by decide +kernel
theorem dX3_init_39 : decode cX3_init 39 = .ok (.iconst 4, 1) := by decide +kernel
theorem dX3_init_40 : decode cX3_init 40 = .ok (.iconst (-1), 1) := by decide +kernel
theorem dX3_init_41 : decode cX3_init 41 = .ok (.iastore, 1) := by decide +kernel
theorem dX3_init_42 : decode cX3_init 42 = .ok (.dup, 1) := by decide +kernel
theorem dX3_init_43 : decode cX3_init 43 = .ok (.iconst 5, 1) := by decide +kernel
theorem dX3_init_44 : decode cX3_init 44 = .ok (.iconst (-1), 1) := by decide +kernel
theorem dX3_init_45 : decode cX3_init 45 = .ok (.iastore, 1) := by decide +kernel
theorem dX3_init_46 : decode cX3_init 46 = .ok (.dup, 1) := by decide +kernel
theorem dX3_init_47 : decode cX3_init 47 = .ok (.bipush 6, 2) := by decide +kernel
theorem dX3_init_49 : decode cX3_init 49 = .ok (.iconst (-1), 1) := by decide +kernel
theorem dX3_init_50 : decode cX3_init 50 = .ok (.iastore, 1) := by decide +kernel
theorem dX3_init_51 : decode cX3_init 51 = .ok (.dup, 1) := by decide +kernel
theorem dX3_init_52 : decode cX3_init 52 = .ok (.bipush 7, 2) := by decide +kernel
theorem dX3_init_54 : decode cX3_init 54 = .ok (.iconst (-1), 1) := by decide +kernel
theorem dX3_init_55 : decode cX3_init 55 = .ok (.iastore, 1) := by decide +kernel
theorem dX3_init_56 : decode cX3_init 56 = .ok (.dup, 1) := by decide +kernel
theorem dX3_init_57 : decode cX3_init 57 = .ok (.bipush 8, 2) := by decide +kernel
theorem dX3_init_59 : decode cX3_init 59 = .ok (.iconst (-1), 1) := by decide +kernel
theorem dX3_init_60 : decode cX3_init 60 = .ok (.iastore, 1) := by decide +kernel
theorem dX3_init_61 : decode cX3_init 61 = .ok (.dup, 1) := by decide +kernel
theorem dX3_init_62 : decode cX3_init 62 = .ok (.bipush 9, 2) := by decide +kernel
theorem dX3_init_64 : decode cX3_init 64 = .ok (.iconst (-1), 1) := by decide +kernel
theorem dX3_init_65 : decode cX3_init 65 = .ok (.iastore, 1) := by decide +kernel
theorem dX3_init_66 : decode cX3_init 66 = .ok (.putfield 17, 3) := by decide +kernel
theorem dX3_init_69 : decode cX3_init 69 = .ok (.aload_n 0, 1) := by decide +kernel
theorem dX3_init_70 : decode cX3_init 70 = .ok (.bipush 60, 2) := by decide +kernel
theorem dX3_init_72 : decode cX3_init 72 = .ok (.newarray .int, 2) := by decide +kernel
theorem dX3_init_74 : decode cX3_init 74 = .ok (.putfield 21, 3) := by decide +kernel
theorem dX3_init_77 : decode cX3_init 77 = .ok (.aload_n 0, 1) := by decide +kernel
theorem dX3_init_78 : decode cX3_init 78 = .ok (.bipush 36, 2) := by decide +kernel
theorem dX3_init_80 : decode cX3_init 80 = .ok (.newarray .int, 2) := by decide +kernel
theorem dX3_init_82 : decode cX3_init 82 = .ok (.putfield 24, 3) := by decide +kernel
theorem dX3_init_85 : decode cX3_init 85 = .ok (.aload_n 0, 1) := by decide +kernel
theorem dX3_init_86 : decode cX3_init 86 = .ok (.bipush 6, 2) := by decide +kernel
theorem dX3_init_88 : decode cX3_init 88 = .ok (.newarray .boolean, 2) := by decide +kernel
theorem dX3_init_90 : decode cX3_init 90 = .ok (.putfield 27, 3) := by decide +kernel
theorem dX3_init_93 : decode cX3_init 93 = .ok (.aload_n 0, 1) := by decide +kernel
theorem dX3_init_94 : decode cX3_init 94 = .ok (.bipush 12, 2) := by decide +kernel
theorem dX3_init_96 : decode cX3_init 96 = .ok (.newarray .int, 2) := by decide +kernel
theorem dX3_init_98 : decode cX3_init 98 = .ok (.putfield 30, 3) := by decide +kernel
theorem dX3_init_101 : decode cX3_init 101 = .ok (.aload_n 0, 1) := by decide +kernel
theorem dX3_init_102 : decode cX3_init 102 = .ok (.bipush 12, 2) := by decide +kernel
theorem dX3_init_104 : decode cX3_init 104 = .ok (.newarray .int, 2) := by decide +kernel
theorem dX3_init_106 : decode cX3_init 106 = .ok (.putfield 33, 3) := by decide +kernel
theorem dX3_init_109 : decode cX3_init 109 = .ok (.aload_n 0, 1) := by decide +kernel
theorem dX3_init_110 : decode cX3_init 110 = .ok (.bipush 12, 2) := by decide +kernel
theorem dX3_init_112 : decode cX3_init 112 = .ok (.newarray .boolean, 2) := by decide +kernel
theorem dX3_init_114 : decode cX3_init 114 = .ok (.putfield 36, 3) := by decide +kernel
theorem dX3_init_117 : decode cX3_init 117 = .ok (.aload_n 0, 1) := by decide +kernel
theorem dX3_init_118 : decode cX3_init 118 = .ok (.bipush 12, 2) := by decide +kernel
theorem dX3_init_120 : decode cX3_init 120 = .ok (.newarray .boolean, 2) := by decide +kernel
theorem dX3_init_122 : decode cX3_init 122 = .ok (.putfield 39, 3) := by decide +kernel
theorem dX3_init_125 : decode cX3_init 125 = .ok (.aload_n 0, 1) := by decide +kernel
theorem dX3_init_126 : decode cX3_init 126 = .ok (.bipush 120, 2) := by decide +kernel
theorem dX3_init_128 : decode cX3_init 128 = .ok (.newarray .int, 2) := by decide +kernel
theorem dX3_init_130 : decode cX3_init 130 = .ok (.putfield 42, 3) := by decide +kernel
theorem dX3_init_133 : decode cX3_init 133 = .ok (.aload_n 0, 1) := by decide +kernel
theorem dX3_init_134 : decode cX3_init 134 = .ok (.bipush 72, 2) := by decide +kernel
theorem dX3_init_136 : decode cX3_init 136 = .ok (.newarray .int, 2) := by decide +kernel
theorem dX3_init_138 : decode cX3_init 138 = .ok (.putfield 45, 3) := by decide +kernel
theorem dX3_init_141 : decode cX3_init 141 = .ok (.aload_n 0, 1) := by decide +kernel
theorem dX3_init_142 : decode cX3_init 142 = .ok (.iconst 4, 1) := by decide +kernel
theorem dX3_init_143 : decode cX3_init 143 = .ok (.newarray .int, 2) := by decide +kernel
theorem dX3_init_145 : decode cX3_init 145 = .ok (.putfield 48, 3) := by decide +kernel
theorem dX3_init_148 : decode cX3_init 148 = .ok (.aload_n 0, 1) := by decide +kernel
theorem dX3_init_149 : decode cX3_init 149 = .ok (.bipush 10, 2) := by decide +kernel
theorem dX3_init_151 : decode cX3_init 151 = .ok (.newarray .boolean, 2) := by decide +kernel
theorem dX3_init_153 : decode cX3_init 153 = .ok (.putfield 51, 3) := by decide +kernel
theorem dX3_init_156 : decode cX3_init 156 = .ok (.return_, 1) := by decide +kernel
theorem dX3_thrown_0 : decode cX3_thrown 0 = .ok (.aload_n 0, 1) := by decide +kernel
theorem dX3_thrown_1 : decode cX3_thrown 1 = .ok (.getfield 54, 3) := by decide +kernel
theorem dX3_thrown_4 : decode cX3_thrown 4 = .ok (.ireturn, 1) := by decide +kernel
theorem dX3_fails_0 : decode cX3_fails 0 = .ok (.aload_n 0, 1) := by decide +kernel
theorem dX3_fails_1 : decode cX3_fails 1 = .ok (.iload_n 1, 1) := by decide +kernel
theorem dX3_fails_2 : decode cX3_fails 2 = .ok (.putfield 54, 3) := by decide +kernel
theorem dX3_fails_5 : decode cX3_fails 5 = .ok (.iload_n 1, 1) := by decide +kernel
theorem dX3_fails_6 : decode cX3_fails 6 = .ok (.ifCond .le 7, 3) := by decide +kernel
theorem dX3_fails_9 : decode cX3_fails 9 = .ok (.iconst 1, 1) := by decide +kernel
theorem dX3_fails_10 : decode cX3_fails 10 = .ok (.goto 4, 3) := by decide +kernel
theorem dX3_fails_13 : decode cX3_fails 13 = .ok (.iconst 0, 1) := by decide +kernel
theorem dX3_fails_14 : decode cX3_fails 14 = .ok (.ireturn, 1) := by decide +kernel
theorem dX3_tells_0 : decode cX3_tells 0 = .ok (.aload_n 0, 1) := by decide +kernel
theorem dX3_tells_1 : decode cX3_tells 1 = .ok (.iconst 0, 1) := by decide +kernel
theorem dX3_tells_2 : decode cX3_tells 2 = .ok (.putfield 54, 3) := by decide +kernel
theorem dX3_tells_5 : decode cX3_tells 5 = .ok (.iload_n 1, 1) := by decide +kernel
theorem dX3_tells_6 : decode cX3_tells 6 = .ok (.ireturn, 1) := by decide +kernel
theorem dX3_in_0 : decode cX3_in 0 = .ok (.iload_n 0, 1) := by decide +kernel
theorem dX3_in_1 : decode cX3_in 1 = .ok (.iload_n 1, 1) := by decide +kernel
theorem dX3_in_2 : decode cX3_in 2 = .ok (.if_icmp .lt 12, 3) := by decide +kernel
theorem dX3_in_5 : decode cX3_in 5 = .ok (.iload_n 0, 1) := by decide +kernel
theorem dX3_in_6 : decode cX3_in 6 = .ok (.iload_n 2, 1) := by decide +kernel
theorem dX3_in_7 : decode cX3_in 7 = .ok (.if_icmp .gt 7, 3) := by decide +kernel
theorem dX3_in_10 : decode cX3_in 10 = .ok (.iconst 1, 1) := by decide +kernel
theorem dX3_in_11 : decode cX3_in 11 = .ok (.goto 4, 3) := by decide +kernel
theorem dX3_in_14 : decode cX3_in 14 = .ok (.iconst 0, 1) := by decide +kernel
theorem dX3_in_15 : decode cX3_in 15 = .ok (.ireturn, 1) := by decide +kernel
set_option maxRecDepth 20000 in
theorem ggX3_isNoAccount_X3_in : GoodIn wsX3_isNoAccount wsX3_in := goodIn_r _ [5] (by decide +kernel) (by decide +kernel)
set_option maxRecDepth 20000 in
theorem gX3_isNoAccount_X3_in : GoodIn wsX3_isNoAccount (va_wsS RX3 57 yX3_in wsX3_in) := goodIn_app (goodIn_of _ (by decide +kernel)) ggX3_isNoAccount_X3_in
theorem dX3_isNoAccount_0 : decode cX3_isNoAccount 0 = .ok (.iload_n 1, 1) := by decide +kernel
theorem dX3_isNoAccount_1 : decode cX3_isNoAccount 1 = .ok (.iconst 0, 1) := by decide +kernel
theorem dX3_isNoAccount_2 : decode cX3_isNoAccount 2 = .ok (.aload_n 0, 1) := by decide +kernel
theorem dX3_isNoAccount_3 : decode cX3_isNoAccount 3 = .ok (.getfield 7, 3) := by decide +kernel
theorem dX3_isNoAccount_6 : decode cX3_isNoAccount 6 = .ok (.iconst 1, 1) := by decide +kernel
theorem dX3_isNoAccount_7 : decode cX3_isNoAccount 7 = .ok (.isub, 1) := by decide +kernel
theorem dX3_isNoAccount_8 : decode cX3_isNoAccount 8 = .ok (.invokestatic 57, 3) := by decide +kernel
theorem dX3_isNoAccount_11 : decode cX3_isNoAccount 11 = .ok (.ifCond .ne 7, 3) := by decide +kernel
theorem dX3_isNoAccount_14 : decode cX3_isNoAccount 14 = .ok (.iconst 1, 1) := by decide +kernel
theorem dX3_isNoAccount_15 : decode cX3_isNoAccount 15 = .ok (.goto 4, 3) := by decide +kernel
theorem dX3_isNoAccount_18 : decode cX3_isNoAccount 18 = .ok (.iconst 0, 1) := by decide +kernel
theorem dX3_isNoAccount_19 : decode cX3_isNoAccount 19 = .ok (.ireturn, 1) := by decide +kernel
set_option maxRecDepth 20000 in
theorem ggX3_isNoGroup_X3_in : GoodIn wsX3_isNoGroup wsX3_in := goodIn_r _ [5] (by decide +kernel) (by decide +kernel)
set_option maxRecDepth 20000 in
theorem gX3_isNoGroup_X3_in : GoodIn wsX3_isNoGroup (va_wsS RX3 57 yX3_in wsX3_in) := goodIn_app (goodIn_of _ (by decide +kernel)) ggX3_isNoGroup_X3_in
theorem dX3_isNoGroup_0 : decode cX3_isNoGroup 0 = .ok (.iload_n 1, 1) := by decide +kernel
theorem dX3_isNoGroup_1 : decode cX3_isNoGroup 1 = .ok (.iconst 0, 1) := by decide +kernel
theorem dX3_isNoGroup_2 : decode cX3_isNoGroup 2 = .ok (.aload_n 0, 1) := by decide +kernel
theorem dX3_isNoGroup_3 : decode cX3_isNoGroup 3 = .ok (.getfield 61, 3) := by decide +kernel
theorem dX3_isNoGroup_6 : decode cX3_isNoGroup 6 = .ok (.iconst 1, 1) := by decide +kernel
theorem dX3_isNoGroup_7 : decode cX3_isNoGroup 7 = .ok (.isub, 1) := by decide +kernel
theorem dX3_isNoGroup_8 : decode cX3_isNoGroup 8 = .ok (.invokestatic 57, 3) := by decide +kernel
theorem dX3_isNoGroup_11 : decode cX3_isNoGroup 11 = .ok (.ifCond .ne 7, 3) := by decide +kernel
theorem dX3_isNoGroup_14 : decode cX3_isNoGroup 14 = .ok (.iconst 1, 1) := by decide +kernel
theorem dX3_isNoGroup_15 : decode cX3_isNoGroup 15 = .ok (.goto 4, 3) := by decide +kernel
theorem dX3_isNoGroup_18 : decode cX3_isNoGroup 18 = .ok (.iconst 0, 1) := by decide +kernel
theorem dX3_isNoGroup_19 : decode cX3_isNoGroup 19 = .ok (.ireturn, 1) := by decide +kernel
set_option maxRecDepth 20000 in
theorem ggX3_isNoFolder_X3_in : GoodIn wsX3_isNoFolder wsX3_in := goodIn_r _ [5] (by decide +kernel) (by decide +kernel)
set_option maxRecDepth 20000 in
theorem gX3_isNoFolder_X3_in : GoodIn wsX3_isNoFolder (va_wsS RX3 57 yX3_in wsX3_in) := goodIn_app (goodIn_of _ (by decide +kernel)) ggX3_isNoFolder_X3_in
theorem dX3_isNoFolder_0 : decode cX3_isNoFolder 0 = .ok (.iload_n 1, 1) := by decide +kernel
theorem dX3_isNoFolder_1 : decode cX3_isNoFolder 1 = .ok (.iconst 0, 1) := by decide +kernel
theorem dX3_isNoFolder_2 : decode cX3_isNoFolder 2 = .ok (.aload_n 0, 1) := by decide +kernel
theorem dX3_isNoFolder_3 : decode cX3_isNoFolder 3 = .ok (.getfield 64, 3) := by decide +kernel
theorem dX3_isNoFolder_6 : decode cX3_isNoFolder 6 = .ok (.iconst 1, 1) := by decide +kernel
theorem dX3_isNoFolder_7 : decode cX3_isNoFolder 7 = .ok (.isub, 1) := by decide +kernel
theorem dX3_isNoFolder_8 : decode cX3_isNoFolder 8 = .ok (.invokestatic 57, 3) := by decide +kernel
theorem dX3_isNoFolder_11 : decode cX3_isNoFolder 11 = .ok (.ifCond .ne 7, 3) := by decide +kernel
theorem dX3_isNoFolder_14 : decode cX3_isNoFolder 14 = .ok (.iconst 1, 1) := by decide +kernel
theorem dX3_isNoFolder_15 : decode cX3_isNoFolder 15 = .ok (.goto 4, 3) := by decide +kernel
theorem dX3_isNoFolder_18 : decode cX3_isNoFolder 18 = .ok (.iconst 0, 1) := by decide +kernel
theorem dX3_isNoFolder_19 : decode cX3_isNoFolder 19 = .ok (.ireturn, 1) := by decide +kernel
set_option maxRecDepth 20000 in
theorem ggX3_addAccount_X3_fails : GoodIn wsX3_addAccount wsX3_fails := goodIn_r _ [6, 7, 8, 9, 10, 11, 12, 13, 14, 15, 16, 17, 18, 19, 20, 21, 22, 23, 24, 25, 26] (by decide +kernel) (by decide +kernel)
set_option maxRecDepth 20000 in
theorem gX3_addAccount_X3_fails : GoodIn wsX3_addAccount (wsV RX3 67 RX3 yX3_fails wsX3_fails) := goodIn_app (goodIn_of _ (by decide +kernel)) ggX3_addAccount_X3_fails
theorem dX3_addAccount_0 : decode cX3_addAccount 0 = .ok (.aload_n 0, 1) := by decide +kernel
theorem dX3_addAccount_1 : decode cX3_addAccount 1 = .ok (.aload_n 0, 1) := by decide +kernel
theorem dX3_addAccount_2 : decode cX3_addAccount 2 = .ok (.getfield 7, 3) := by decide +kernel
theorem dX3_addAccount_5 : decode cX3_addAccount 5 = .ok (.bipush 10, 2) := by decide +kernel
theorem dX3_addAccount_7 : decode cX3_addAccount 7 = .ok (.if_icmp .ne 7, 3) := by decide +kernel
theorem dX3_addAccount_10 : decode cX3_addAccount 10 = .ok (.iconst 1, 1) := by decide +kernel
theorem dX3_addAccount_11 : decode cX3_addAccount 11 = .ok (.goto 4, 3) := by decide +kernel
theorem dX3_addAccount_14 : decode cX3_addAccount 14 = .ok (.iconst 0, 1) := by decide +kernel
theorem dX3_addAccount_15 : decode cX3_addAccount 15 = .ok (.invokevirtual 67, 3) := by decide +kernel
theorem dX3_addAccount_18 : decode cX3_addAccount 18 = .ok (.ifCond .eq 5, 3) := by decide +kernel
theorem dX3_addAccount_21 : decode cX3_addAccount 21 = .ok (.iconst 0, 1) := by decide +kernel
theorem dX3_addAccount_22 : decode cX3_addAccount 22 = .ok (.ireturn, 1) := by decide +kernel
theorem dX3_addAccount_23 : decode cX3_addAccount 23 = .ok (.aload_n 0, 1) := by decide +kernel
theorem dX3_addAccount_24 : decode cX3_addAccount 24 = .ok (.dup, 1) := by decide +kernel
theorem dX3_addAccount_25 : decode cX3_addAccount 25 = .ok (.getfield 7, 3) := by decide +kernel
theorem dX3_addAccount_28 : decode cX3_addAccount 28 = .ok (.iconst 1, 1) := by decide +kernel
theorem dX3_addAccount_29 : decode cX3_addAccount 29 = .ok (.iadd, 1) := by decide +kernel
theorem dX3_addAccount_30 : decode cX3_addAccount 30 = .ok (.putfield 7, 3) := by decide +kernel
theorem dX3_addAccount_33 : decode cX3_addAccount 33 = .ok (.aload_n 0, 1) := by decide +kernel
theorem dX3_addAccount_34 : decode cX3_addAccount 34 = .ok (.getfield 7, 3) := by decide +kernel
theorem dX3_addAccount_37 : decode cX3_addAccount 37 = .ok (.iconst 1, 1) := by decide +kernel
theorem dX3_addAccount_38 : decode cX3_addAccount 38 = .ok (.isub, 1) := by decide +kernel
theorem dX3_addAccount_39 : decode cX3_addAccount 39 = .ok (.ireturn, 1) := by decide +kernel
set_option maxRecDepth 20000 in
theorem ggX3_setHeir_X3_isNoAccount : GoodIn wsX3_setHeir wsX3_isNoAccount := goodIn_r _ [6, 7, 8, 9, 5, 10, 16, 17, 18, 19, 20, 21, 22, 23, 24, 25, 26, 27, 28, 29, 30, 31, 32, 33, 34] (by decide +kernel) (by decide +kernel)
set_option maxRecDepth 20000 in
theorem gX3_setHeir_X3_isNoAccount : GoodIn wsX3_setHeir (wsV RX3 71 RX3 yX3_isNoAccount wsX3_isNoAccount) := goodIn_app (goodIn_of _ (by decide +kernel)) ggX3_setHeir_X3_isNoAccount
set_option maxRecDepth 20000 in
theorem ggX3_setHeir_X3_fails : GoodIn wsX3_setHeir wsX3_fails := goodIn_r _ [14, 15, 16, 17, 18, 19, 20, 21, 22, 23, 24, 25, 26, 27, 28, 29, 30, 31, 32, 33, 34] (by decide +kernel) (by decide +kernel)
set_option maxRecDepth 20000 in
theorem gX3_setHeir_X3_fails : GoodIn wsX3_setHeir (wsV RX3 67 RX3 yX3_fails wsX3_fails) := goodIn_app (goodIn_of _ (by decide +kernel)) ggX3_setHeir_X3_fails
theorem dX3_setHeir_0 : decode cX3_setHeir 0 = .ok (.aload_n 0, 1) := by decide +kernel
theorem dX3_setHeir_1 : decode cX3_setHeir 1 = .ok (.aload_n 0, 1) := by decide +kernel
theorem dX3_setHeir_2 : decode cX3_setHeir 2 = .ok (.iload_n 1, 1) := by decide +kernel
theorem dX3_setHeir_3 : decode cX3_setHeir 3 = .ok (.invokevirtual 71, 3) := by decide +kernel
theorem dX3_setHeir_6 : decode cX3_setHeir 6 = .ok (.ifCond .ne 16, 3) := by decide +kernel
theorem dX3_setHeir_9 : decode cX3_setHeir 9 = .ok (.iload_n 2, 1) := by decide +kernel
theorem dX3_setHeir_10 : decode cX3_setHeir 10 = .ok (.iconst (-1), 1) := by decide +kernel
theorem dX3_setHeir_11 : decode cX3_setHeir 11 = .ok (.if_icmp .eq 15, 3) := by decide +kernel
theorem dX3_setHeir_14 : decode cX3_setHeir 14 = .ok (.aload_n 0, 1) := by decide +kernel
theorem dX3_setHeir_15 : decode cX3_setHeir 15 = .ok (.iload_n 2, 1) := by decide +kernel
theorem dX3_setHeir_16 : decode cX3_setHeir 16 = .ok (.invokevirtual 71, 3) := by decide +kernel
theorem dX3_setHeir_19 : decode cX3_setHeir 19 = .ok (.ifCond .eq 7, 3) := by decide +kernel
theorem dX3_setHeir_22 : decode cX3_setHeir 22 = .ok (.iconst 1, 1) := by decide +kernel
theorem dX3_setHeir_23 : decode cX3_setHeir 23 = .ok (.goto 13, 3) := by decide +kernel
theorem dX3_setHeir_26 : decode cX3_setHeir 26 = .ok (.iload_n 1, 1) := by decide +kernel
theorem dX3_setHeir_27 : decode cX3_setHeir 27 = .ok (.iload_n 2, 1) := by decide +kernel
theorem dX3_setHeir_28 : decode cX3_setHeir 28 = .ok (.if_icmp .ne 7, 3) := by decide +kernel
theorem dX3_setHeir_31 : decode cX3_setHeir 31 = .ok (.iconst 2, 1) := by decide +kernel
theorem dX3_setHeir_32 : decode cX3_setHeir 32 = .ok (.goto 4, 3) := by decide +kernel
theorem dX3_setHeir_35 : decode cX3_setHeir 35 = .ok (.iconst 0, 1) := by decide +kernel
theorem dX3_setHeir_36 : decode cX3_setHeir 36 = .ok (.invokevirtual 67, 3) := by decide +kernel
theorem dX3_setHeir_39 : decode cX3_setHeir 39 = .ok (.ifCond .eq 5, 3) := by decide +kernel
theorem dX3_setHeir_42 : decode cX3_setHeir 42 = .ok (.iconst 0, 1) := by decide +kernel
theorem dX3_setHeir_43 : decode cX3_setHeir 43 = .ok (.ireturn, 1) := by decide +kernel
theorem dX3_setHeir_44 : decode cX3_setHeir 44 = .ok (.aload_n 0, 1) := by decide +kernel
theorem dX3_setHeir_45 : decode cX3_setHeir 45 = .ok (.getfield 17, 3) := by decide +kernel
theorem dX3_setHeir_48 : decode cX3_setHeir 48 = .ok (.iload_n 1, 1) := by decide +kernel
theorem dX3_setHeir_49 : decode cX3_setHeir 49 = .ok (.iaload, 1) := by decide +kernel
theorem dX3_setHeir_50 : decode cX3_setHeir 50 = .ok (.istore_n 3, 1) := by decide +kernel
theorem dX3_setHeir_51 : decode cX3_setHeir 51 = .ok (.aload_n 0, 1) := by decide +kernel
theorem dX3_setHeir_52 : decode cX3_setHeir 52 = .ok (.getfield 17, 3) := by decide +kernel
theorem dX3_setHeir_55 : decode cX3_setHeir 55 = .ok (.iload_n 1, 1) := by decide +kernel
theorem dX3_setHeir_56 : decode cX3_setHeir 56 = .ok (.iload_n 2, 1) := by decide +kernel
theorem dX3_setHeir_57 : decode cX3_setHeir 57 = .ok (.iastore, 1) := by decide +kernel
theorem dX3_setHeir_58 : decode cX3_setHeir 58 = .ok (.iload_n 3, 1) := by decide +kernel
theorem dX3_setHeir_59 : decode cX3_setHeir 59 = .ok (.ireturn, 1) := by decide +kernel
set_option maxRecDepth 20000 in
theorem ggX3_addGroup_X3_fails : GoodIn wsX3_addGroup wsX3_fails := goodIn_r _ [6, 7, 8, 9, 10, 11, 12, 13, 14, 15, 16, 17, 18, 19, 20, 21, 22, 23, 24, 25, 26] (by decide +kernel) (by decide +kernel)
set_option maxRecDepth 20000 in
theorem gX3_addGroup_X3_fails : GoodIn wsX3_addGroup (wsV RX3 67 RX3 yX3_fails wsX3_fails) := goodIn_app (goodIn_of _ (by decide +kernel)) ggX3_addGroup_X3_fails
theorem dX3_addGroup_0 : decode cX3_addGroup 0 = .ok (.aload_n 0, 1) := by decide +kernel
theorem dX3_addGroup_1 : decode cX3_addGroup 1 = .ok (.aload_n 0, 1) := by decide +kernel
theorem dX3_addGroup_2 : decode cX3_addGroup 2 = .ok (.getfield 61, 3) := by decide +kernel
theorem dX3_addGroup_5 : decode cX3_addGroup 5 = .ok (.bipush 6, 2) := by decide +kernel
theorem dX3_addGroup_7 : decode cX3_addGroup 7 = .ok (.if_icmp .ne 7, 3) := by decide +kernel
theorem dX3_addGroup_10 : decode cX3_addGroup 10 = .ok (.iconst 1, 1) := by decide +kernel
theorem dX3_addGroup_11 : decode cX3_addGroup 11 = .ok (.goto 4, 3) := by decide +kernel
theorem dX3_addGroup_14 : decode cX3_addGroup 14 = .ok (.iconst 0, 1) := by decide +kernel
theorem dX3_addGroup_15 : decode cX3_addGroup 15 = .ok (.invokevirtual 67, 3) := by decide +kernel
theorem dX3_addGroup_18 : decode cX3_addGroup 18 = .ok (.ifCond .eq 5, 3) := by decide +kernel
theorem dX3_addGroup_21 : decode cX3_addGroup 21 = .ok (.iconst 0, 1) := by decide +kernel
theorem dX3_addGroup_22 : decode cX3_addGroup 22 = .ok (.ireturn, 1) := by decide +kernel
theorem dX3_addGroup_23 : decode cX3_addGroup 23 = .ok (.aload_n 0, 1) := by decide +kernel
theorem dX3_addGroup_24 : decode cX3_addGroup 24 = .ok (.dup, 1) := by decide +kernel
theorem dX3_addGroup_25 : decode cX3_addGroup 25 = .ok (.getfield 61, 3) := by decide +kernel
theorem dX3_addGroup_28 : decode cX3_addGroup 28 = .ok (.iconst 1, 1) := by decide +kernel
theorem dX3_addGroup_29 : decode cX3_addGroup 29 = .ok (.iadd, 1) := by decide +kernel
theorem dX3_addGroup_30 : decode cX3_addGroup 30 = .ok (.putfield 61, 3) := by decide +kernel
theorem dX3_addGroup_33 : decode cX3_addGroup 33 = .ok (.aload_n 0, 1) := by decide +kernel
theorem dX3_addGroup_34 : decode cX3_addGroup 34 = .ok (.getfield 61, 3) := by decide +kernel
theorem dX3_addGroup_37 : decode cX3_addGroup 37 = .ok (.iconst 1, 1) := by decide +kernel
theorem dX3_addGroup_38 : decode cX3_addGroup 38 = .ok (.isub, 1) := by decide +kernel
theorem dX3_addGroup_39 : decode cX3_addGroup 39 = .ok (.ireturn, 1) := by decide +kernel
set_option maxRecDepth 20000 in
theorem ggX3_isNoEnd_X3_in : GoodIn wsX3_isNoEnd wsX3_in := goodIn_r _ [5] (by decide +kernel) (by decide +kernel)
set_option maxRecDepth 20000 in
theorem gX3_isNoEnd_X3_in : GoodIn wsX3_isNoEnd (va_wsS RX3 57 yX3_in wsX3_in) := goodIn_app (goodIn_of _ (by decide +kernel)) ggX3_isNoEnd_X3_in
theorem dX3_isNoEnd_0 : decode cX3_isNoEnd 0 = .ok (.iload_n 1, 1) := by decide +kernel
theorem dX3_isNoEnd_1 : decode cX3_isNoEnd 1 = .ok (.iconst (-1), 1) := by decide +kernel
theorem dX3_isNoEnd_2 : decode cX3_isNoEnd 2 = .ok (.if_icmp .eq 23, 3) := by decide +kernel
theorem dX3_isNoEnd_5 : decode cX3_isNoEnd 5 = .ok (.iload_n 1, 1) := by decide +kernel
theorem dX3_isNoEnd_6 : decode cX3_isNoEnd 6 = .ok (.aload_n 0, 1) := by decide +kernel
theorem dX3_isNoEnd_7 : decode cX3_isNoEnd 7 = .ok (.getfield 74, 3) := by decide +kernel
theorem dX3_isNoEnd_10 : decode cX3_isNoEnd 10 = .ok (.iconst 1, 1) := by decide +kernel
theorem dX3_isNoEnd_11 : decode cX3_isNoEnd 11 = .ok (.iadd, 1) := by decide +kernel
theorem dX3_isNoEnd_12 : decode cX3_isNoEnd 12 = .ok (.sipush 999, 3) := by decide +kernel
theorem dX3_isNoEnd_15 : decode cX3_isNoEnd 15 = .ok (.invokestatic 57, 3) := by decide +kernel
theorem dX3_isNoEnd_18 : decode cX3_isNoEnd 18 = .ok (.ifCond .ne 7, 3) := by decide +kernel
theorem dX3_isNoEnd_21 : decode cX3_isNoEnd 21 = .ok (.iconst 1, 1) := by decide +kernel
theorem dX3_isNoEnd_22 : decode cX3_isNoEnd 22 = .ok (.goto 4, 3) := by decide +kernel
theorem dX3_isNoEnd_25 : decode cX3_isNoEnd 25 = .ok (.iconst 0, 1) := by decide +kernel
theorem dX3_isNoEnd_26 : decode cX3_isNoEnd 26 = .ok (.ireturn, 1) := by decide +kernel
theorem dX3_membersOf_0 : decode cX3_membersOf 0 = .ok (.iconst 0, 1) := by decide +kernel
theorem dX3_membersOf_1 : decode cX3_membersOf 1 = .ok (.istore_n 2, 1) := by decide +kernel
theorem dX3_membersOf_2 : decode cX3_membersOf 2 = .ok (.iconst 0, 1) := by decide +kernel
theorem dX3_membersOf_3 : decode cX3_membersOf 3 = .ok (.istore_n 3, 1) := by decide +kernel
theorem dX3_membersOf_4 : decode cX3_membersOf 4 = .ok (.iload_n 3, 1) := by decide +kernel
theorem dX3_membersOf_5 : decode cX3_membersOf 5 = .ok (.aload_n 0, 1) := by decide +kernel
theorem dX3_membersOf_6 : decode cX3_membersOf 6 = .ok (.getfield 7, 3) := by decide +kernel
theorem dX3_membersOf_9 : decode cX3_membersOf 9 = .ok (.if_icmp .ge 31, 3) := by decide +kernel
theorem dX3_membersOf_12 : decode cX3_membersOf 12 = .ok (.iload_n 2, 1) := by decide +kernel
theorem dX3_membersOf_13 : decode cX3_membersOf 13 = .ok (.aload_n 0, 1) := by decide +kernel
theorem dX3_membersOf_14 : decode cX3_membersOf 14 = .ok (.getfield 21, 3) := by decide +kernel
theorem dX3_membersOf_17 : decode cX3_membersOf 17 = .ok (.bipush 6, 2) := by decide +kernel
theorem dX3_membersOf_19 : decode cX3_membersOf 19 = .ok (.iload_n 3, 1) := by decide +kernel
theorem dX3_membersOf_20 : decode cX3_membersOf 20 = .ok (.imul, 1) := by decide +kernel
theorem dX3_membersOf_21 : decode cX3_membersOf 21 = .ok (.iload_n 1, 1) := by decide +kernel
theorem dX3_membersOf_22 : decode cX3_membersOf 22 = .ok (.iadd, 1) := by decide +kernel
theorem dX3_membersOf_23 : decode cX3_membersOf 23 = .ok (.iaload, 1) := by decide +kernel
theorem dX3_membersOf_24 : decode cX3_membersOf 24 = .ok (.ifCond .le 7, 3) := by decide +kernel
theorem dX3_membersOf_27 : decode cX3_membersOf 27 = .ok (.iconst 1, 1) := by decide +kernel
theorem dX3_membersOf_28 : decode cX3_membersOf 28 = .ok (.goto 4, 3) := by decide +kernel
theorem dX3_membersOf_31 : decode cX3_membersOf 31 = .ok (.iconst 0, 1) := by decide +kernel
theorem dX3_membersOf_32 : decode cX3_membersOf 32 = .ok (.iadd, 1) := by decide +kernel
theorem dX3_membersOf_33 : decode cX3_membersOf 33 = .ok (.istore_n 2, 1) := by decide +kernel
theorem dX3_membersOf_34 : decode cX3_membersOf 34 = .ok (.iinc 3 1, 3) := by decide +kernel
theorem dX3_membersOf_37 : decode cX3_membersOf 37 = .ok (.goto (-33), 3) := by decide +kernel
theorem dX3_membersOf_40 : decode cX3_membersOf 40 = .ok (.iload_n 2, 1) := by decide +kernel
theorem dX3_membersOf_41 : decode cX3_membersOf 41 = .ok (.ireturn, 1) := by decide +kernel
set_option maxRecDepth 20000 in
theorem ggX3_join_X3_isNoAccount : GoodIn wsX3_join wsX3_isNoAccount := goodIn_r _ [7, 8, 9, 10, 6, 11, 31, 32, 33, 34, 35, 36, 37, 38, 39, 40, 41, 42, 43, 44, 45, 46, 47, 48, 49] (by decide +kernel) (by decide +kernel)
set_option maxRecDepth 20000 in
theorem gX3_join_X3_isNoAccount : GoodIn wsX3_join (wsV RX3 71 RX3 yX3_isNoAccount wsX3_isNoAccount) := goodIn_app (goodIn_of _ (by decide +kernel)) ggX3_join_X3_isNoAccount
set_option maxRecDepth 20000 in
theorem ggX3_join_X3_isNoGroup : GoodIn wsX3_join wsX3_isNoGroup := goodIn_r _ [15, 16, 9, 10, 6, 11, 31, 32, 33, 34, 35, 36, 37, 38, 39, 40, 41, 42, 43, 44, 45, 46, 47, 48, 49] (by decide +kernel) (by decide +kernel)
set_option maxRecDepth 20000 in
theorem gX3_join_X3_isNoGroup : GoodIn wsX3_join (wsV RX3 77 RX3 yX3_isNoGroup wsX3_isNoGroup) := goodIn_app (goodIn_of _ (by decide +kernel)) ggX3_join_X3_isNoGroup
set_option maxRecDepth 20000 in
theorem ggX3_join_X3_isNoEnd : GoodIn wsX3_join wsX3_isNoEnd := goodIn_r _ [20, 21, 9, 10, 6, 11, 31, 32, 33, 34, 35, 36, 37, 38, 39, 40, 41, 42, 43, 44, 45, 46, 47, 48, 49] (by decide +kernel) (by decide +kernel)
set_option maxRecDepth 20000 in
theorem gX3_join_X3_isNoEnd : GoodIn wsX3_join (wsV RX3 80 RX3 yX3_isNoEnd wsX3_isNoEnd) := goodIn_app (goodIn_of _ (by decide +kernel)) ggX3_join_X3_isNoEnd
set_option maxRecDepth 20000 in
theorem ggX3_join_X3_fails : GoodIn wsX3_join wsX3_fails := goodIn_r _ [25, 26, 31, 32, 33, 34, 35, 36, 37, 38, 39, 40, 41, 42, 43, 44, 45, 46, 47, 48, 49] (by decide +kernel) (by decide +kernel)
set_option maxRecDepth 20000 in
theorem gX3_join_X3_fails : GoodIn wsX3_join (wsV RX3 67 RX3 yX3_fails wsX3_fails) := goodIn_app (goodIn_of _ (by decide +kernel)) ggX3_join_X3_fails
set_option maxRecDepth 20000 in
theorem ggX3_join_X3_membersOf : GoodIn wsX3_join wsX3_membersOf := goodIn_ca (goodIn_r _ [30, 8, 2, 31, 32, 33, 34, 35, 36, 37, 38, 39, 40, 41, 42, 43, 44, 45, 46, 47, 48, 49] (by decide +kernel) (by decide +kernel)) (goodIn_sub (fun _ h => List.mem_cons_of_mem _ (List.mem_append_right _ h)) (by decide +kernel))
set_option maxRecDepth 20000 in
theorem gX3_join_X3_membersOf : GoodIn wsX3_join (wsV RX3 83 RX3 yX3_membersOf wsX3_membersOf) := goodIn_app (goodIn_of _ (by decide +kernel)) ggX3_join_X3_membersOf
theorem dX3_join_0 : decode cX3_join 0 = .ok (.aload_n 0, 1) := by decide +kernel
theorem dX3_join_1 : decode cX3_join 1 = .ok (.aload_n 0, 1) := by decide +kernel
theorem dX3_join_2 : decode cX3_join 2 = .ok (.iload_n 1, 1) := by decide +kernel
theorem dX3_join_3 : decode cX3_join 3 = .ok (.invokevirtual 71, 3) := by decide +kernel
theorem dX3_join_6 : decode cX3_join 6 = .ok (.ifCond .ne 11, 3) := by decide +kernel
theorem dX3_join_9 : decode cX3_join 9 = .ok (.aload_n 0, 1) := by decide +kernel
theorem dX3_join_10 : decode cX3_join 10 = .ok (.iload_n 2, 1) := by decide +kernel
theorem dX3_join_11 : decode cX3_join 11 = .ok (.invokevirtual 77, 3) := by decide +kernel
theorem dX3_join_14 : decode cX3_join 14 = .ok (.ifCond .eq 7, 3) := by decide +kernel
theorem dX3_join_17 : decode cX3_join 17 = .ok (.iconst 1, 1) := by decide +kernel
theorem dX3_join_18 : decode cX3_join 18 = .ok (.goto 29, 3) := by decide +kernel
theorem dX3_join_21 : decode cX3_join 21 = .ok (.aload_n 0, 1) := by decide +kernel
theorem dX3_join_22 : decode cX3_join 22 = .ok (.iload_n 3, 1) := by decide +kernel
theorem dX3_join_23 : decode cX3_join 23 = .ok (.invokevirtual 80, 3) := by decide +kernel
theorem dX3_join_26 : decode cX3_join 26 = .ok (.ifCond .eq 7, 3) := by decide +kernel
theorem dX3_join_29 : decode cX3_join 29 = .ok (.iconst 2, 1) := by decide +kernel
theorem dX3_join_30 : decode cX3_join 30 = .ok (.goto 17, 3) := by decide +kernel
theorem dX3_join_33 : decode cX3_join 33 = .ok (.aload_n 0, 1) := by decide +kernel
theorem dX3_join_34 : decode cX3_join 34 = .ok (.getfield 13, 3) := by decide +kernel
theorem dX3_join_37 : decode cX3_join 37 = .ok (.iload_n 1, 1) := by decide +kernel
theorem dX3_join_38 : decode cX3_join 38 = .ok (.baload, 1) := by decide +kernel
theorem dX3_join_39 : decode cX3_join 39 = .ok (.ifCond .eq 7, 3) := by decide +kernel
theorem dX3_join_42 : decode cX3_join 42 = .ok (.iconst 3, 1) := by decide +kernel
theorem dX3_join_43 : decode cX3_join 43 = .ok (.goto 4, 3) := by decide +kernel
theorem dX3_join_46 : decode cX3_join 46 = .ok (.iconst 0, 1) := by decide +kernel
theorem dX3_join_47 : decode cX3_join 47 = .ok (.invokevirtual 67, 3) := by decide +kernel
theorem dX3_join_50 : decode cX3_join 50 = .ok (.ifCond .eq 5, 3) := by decide +kernel
theorem dX3_join_53 : decode cX3_join 53 = .ok (.iconst 0, 1) := by decide +kernel
theorem dX3_join_54 : decode cX3_join 54 = .ok (.ireturn, 1) := by decide +kernel
theorem dX3_join_55 : decode cX3_join 55 = .ok (.aload_n 0, 1) := by decide +kernel
theorem dX3_join_56 : decode cX3_join 56 = .ok (.getfield 21, 3) := by decide +kernel
theorem dX3_join_59 : decode cX3_join 59 = .ok (.bipush 6, 2) := by decide +kernel
theorem dX3_join_61 : decode cX3_join 61 = .ok (.iload_n 1, 1) := by decide +kernel
theorem dX3_join_62 : decode cX3_join 62 = .ok (.imul, 1) := by decide +kernel
theorem dX3_join_63 : decode cX3_join 63 = .ok (.iload_n 2, 1) := by decide +kernel
theorem dX3_join_64 : decode cX3_join 64 = .ok (.iadd, 1) := by decide +kernel
theorem dX3_join_65 : decode cX3_join 65 = .ok (.iload_n 3, 1) := by decide +kernel
theorem dX3_join_66 : decode cX3_join 66 = .ok (.iconst (-1), 1) := by decide +kernel
theorem dX3_join_67 : decode cX3_join 67 = .ok (.if_icmp .ne 9, 3) := by decide +kernel
theorem dX3_join_70 : decode cX3_join 70 = .ok (.sipush 9999, 3) := by decide +kernel
theorem dX3_join_73 : decode cX3_join 73 = .ok (.goto 4, 3) := by decide +kernel
theorem dX3_join_76 : decode cX3_join 76 = .ok (.iload_n 3, 1) := by decide +kernel
theorem dX3_join_77 : decode cX3_join 77 = .ok (.iastore, 1) := by decide +kernel
theorem dX3_join_78 : decode cX3_join 78 = .ok (.aload_n 0, 1) := by decide +kernel
theorem dX3_join_79 : decode cX3_join 79 = .ok (.iload_n 2, 1) := by decide +kernel
theorem dX3_join_80 : decode cX3_join 80 = .ok (.invokevirtual 83, 3) := by decide +kernel
theorem dX3_join_83 : decode cX3_join 83 = .ok (.ireturn, 1) := by decide +kernel
theorem dX3_isNested_0 : decode cX3_isNested 0 = .ok (.aload_n 0, 1) := by decide +kernel
theorem dX3_isNested_1 : decode cX3_isNested 1 = .ok (.getfield 24, 3) := by decide +kernel
theorem dX3_isNested_4 : decode cX3_isNested 4 = .ok (.bipush 6, 2) := by decide +kernel
theorem dX3_isNested_6 : decode cX3_isNested 6 = .ok (.iload_n 1, 1) := by decide +kernel
theorem dX3_isNested_7 : decode cX3_isNested 7 = .ok (.imul, 1) := by decide +kernel
theorem dX3_isNested_8 : decode cX3_isNested 8 = .ok (.iload_n 2, 1) := by decide +kernel
theorem dX3_isNested_9 : decode cX3_isNested 9 = .ok (.iadd, 1) := by decide +kernel
theorem dX3_isNested_10 : decode cX3_isNested 10 = .ok (.iaload, 1) := by decide +kernel
theorem dX3_isNested_11 : decode cX3_isNested 11 = .ok (.ifCond .le 7, 3) := by decide +kernel
theorem dX3_isNested_14 : decode cX3_isNested 14 = .ok (.iconst 1, 1) := by decide +kernel
theorem dX3_isNested_15 : decode cX3_isNested 15 = .ok (.goto 4, 3) := by decide +kernel
theorem dX3_isNested_18 : decode cX3_isNested 18 = .ok (.iconst 0, 1) := by decide +kernel
theorem dX3_isNested_19 : decode cX3_isNested 19 = .ok (.ireturn, 1) := by decide +kernel
set_option maxRecDepth 20000 in
theorem ggX3_leads_X3_isNested : GoodIn wsX3_leads wsX3_isNested := goodIn_ca (goodIn_r _ [6, 7, 11, 12, 13, 14, 15, 16, 17, 18, 19, 20, 21, 22, 23, 24, 25, 26, 27, 28, 29] (by decide +kernel) (by decide +kernel)) (goodIn_sub (fun _ h => List.mem_cons_of_mem _ (List.mem_append_right _ h)) (by decide +kernel))
set_option maxRecDepth 20000 in
theorem gX3_leads_X3_isNested : GoodIn wsX3_leads (wsV RX3 87 RX3 yX3_isNested wsX3_isNested) := goodIn_app (goodIn_of _ (by decide +kernel)) ggX3_leads_X3_isNested
set_option maxRecDepth 20000 in
theorem ggX3_leads_X3_leads : GoodIn wsX3_leads wsX3_leads := goodIn_ca (goodIn_r _ [0, 1, 2, 3, 4, 5, 6, 7, 8, 9, 10, 11, 12, 13, 14, 15, 16, 17, 18, 19, 20, 21, 22, 23, 24, 25, 26, 27, 28, 29] (by decide +kernel) (by decide +kernel)) (goodIn_sub (fun _ h => List.mem_cons_of_mem _ (List.mem_append_right _ h)) (by decide +kernel))
set_option maxRecDepth 20000 in
theorem gX3_leads_X3_leads : GoodIn wsX3_leads (wsV RX3 91 RX3 yX3_leads wsX3_leads) := goodIn_app (goodIn_of _ (by decide +kernel)) ggX3_leads_X3_leads
theorem dX3_leads_0 : decode cX3_leads 0 = .ok (.iload_n 1, 1) := by decide +kernel
theorem dX3_leads_1 : decode cX3_leads 1 = .ok (.iload_n 2, 1) := by decide +kernel
theorem dX3_leads_2 : decode cX3_leads 2 = .ok (.if_icmp .ne 5, 3) := by decide +kernel
theorem dX3_leads_5 : decode cX3_leads 5 = .ok (.iconst 1, 1) := by decide +kernel
theorem dX3_leads_6 : decode cX3_leads 6 = .ok (.ireturn, 1) := by decide +kernel
theorem dX3_leads_7 : decode cX3_leads 7 = .ok (.iconst 0, 1) := by decide +kernel
theorem dX3_leads_8 : decode cX3_leads 8 = .ok (.istore_n 3, 1) := by decide +kernel
theorem dX3_leads_9 : decode cX3_leads 9 = .ok (.iload_n 3, 1) := by decide +kernel
theorem dX3_leads_10 : decode cX3_leads 10 = .ok (.aload_n 0, 1) := by decide +kernel
theorem dX3_leads_11 : decode cX3_leads 11 = .ok (.getfield 61, 3) := by decide +kernel
theorem dX3_leads_14 : decode cX3_leads 14 = .ok (.if_icmp .ge 29, 3) := by decide +kernel
theorem dX3_leads_17 : decode cX3_leads 17 = .ok (.aload_n 0, 1) := by decide +kernel
theorem dX3_leads_18 : decode cX3_leads 18 = .ok (.iload_n 1, 1) := by decide +kernel
theorem dX3_leads_19 : decode cX3_leads 19 = .ok (.iload_n 3, 1) := by decide +kernel
theorem dX3_leads_20 : decode cX3_leads 20 = .ok (.invokevirtual 87, 3) := by decide +kernel
theorem dX3_leads_23 : decode cX3_leads 23 = .ok (.ifCond .eq 14, 3) := by decide +kernel
theorem dX3_leads_26 : decode cX3_leads 26 = .ok (.aload_n 0, 1) := by decide +kernel
theorem dX3_leads_27 : decode cX3_leads 27 = .ok (.iload_n 3, 1) := by decide +kernel
theorem dX3_leads_28 : decode cX3_leads 28 = .ok (.iload_n 2, 1) := by decide +kernel
theorem dX3_leads_29 : decode cX3_leads 29 = .ok (.invokevirtual 91, 3) := by decide +kernel
theorem dX3_leads_32 : decode cX3_leads 32 = .ok (.ifCond .eq 5, 3) := by decide +kernel
theorem dX3_leads_35 : decode cX3_leads 35 = .ok (.iconst 1, 1) := by decide +kernel
theorem dX3_leads_36 : decode cX3_leads 36 = .ok (.ireturn, 1) := by decide +kernel
theorem dX3_leads_37 : decode cX3_leads 37 = .ok (.iinc 3 1, 3) := by decide +kernel
theorem dX3_leads_40 : decode cX3_leads 40 = .ok (.goto (-31), 3) := by decide +kernel
theorem dX3_leads_43 : decode cX3_leads 43 = .ok (.iconst 0, 1) := by decide +kernel
theorem dX3_leads_44 : decode cX3_leads 44 = .ok (.ireturn, 1) := by decide +kernel
set_option maxRecDepth 20000 in
theorem ggX3_nest_X3_isNoGroup : GoodIn wsX3_nest wsX3_isNoGroup := goodIn_r _ [7, 2, 8, 9, 6, 10, 29, 30, 31, 32, 33, 34, 35, 36, 37, 38, 39, 40, 41, 42, 43, 44, 45, 46, 47] (by decide +kernel) (by decide +kernel)
set_option maxRecDepth 20000 in
theorem gX3_nest_X3_isNoGroup : GoodIn wsX3_nest (wsV RX3 77 RX3 yX3_isNoGroup wsX3_isNoGroup) := goodIn_app (goodIn_of _ (by decide +kernel)) ggX3_nest_X3_isNoGroup
set_option maxRecDepth 20000 in
theorem ggX3_nest_X3_isNoEnd : GoodIn wsX3_nest wsX3_isNoEnd := goodIn_r _ [14, 15, 8, 9, 6, 10, 29, 30, 31, 32, 33, 34, 35, 36, 37, 38, 39, 40, 41, 42, 43, 44, 45, 46, 47] (by decide +kernel) (by decide +kernel)
set_option maxRecDepth 20000 in
theorem gX3_nest_X3_isNoEnd : GoodIn wsX3_nest (wsV RX3 80 RX3 yX3_isNoEnd wsX3_isNoEnd) := goodIn_app (goodIn_of _ (by decide +kernel)) ggX3_nest_X3_isNoEnd
set_option maxRecDepth 20000 in
theorem ggX3_nest_X3_leads : GoodIn wsX3_nest wsX3_leads := goodIn_ca (goodIn_r _ [19, 2, 20, 21, 22, 6, 23, 1, 16, 17, 18, 29, 30, 31, 32, 33, 34, 35, 36, 37, 38, 39, 40, 41, 42, 43, 44, 45, 46, 47] (by decide +kernel) (by decide +kernel)) (goodIn_sub (fun _ h => List.mem_cons_of_mem _ (List.mem_append_right _ h)) (by decide +kernel))
set_option maxRecDepth 20000 in
theorem gX3_nest_X3_leads : GoodIn wsX3_nest (wsV RX3 91 RX3 yX3_leads wsX3_leads) := goodIn_app (goodIn_of _ (by decide +kernel)) ggX3_nest_X3_leads
set_option maxRecDepth 20000 in
theorem ggX3_nest_X3_fails : GoodIn wsX3_nest wsX3_fails := goodIn_r _ [27, 28, 29, 30, 31, 32, 33, 34, 35, 36, 37, 38, 39, 40, 41, 42, 43, 44, 45, 46, 47] (by decide +kernel) (by decide +kernel)
set_option maxRecDepth 20000 in
theorem gX3_nest_X3_fails : GoodIn wsX3_nest (wsV RX3 67 RX3 yX3_fails wsX3_fails) := goodIn_app (goodIn_of _ (by decide +kernel)) ggX3_nest_X3_fails
set_option maxRecDepth 20000 in
theorem ggX3_nest_X3_isNested : GoodIn wsX3_nest wsX3_isNested := goodIn_ca (goodIn_r _ [23, 1, 29, 30, 31, 32, 33, 34, 35, 36, 37, 38, 39, 40, 41, 42, 43, 44, 45, 46, 47] (by decide +kernel) (by decide +kernel)) (goodIn_sub (fun _ h => List.mem_cons_of_mem _ (List.mem_append_right _ h)) (by decide +kernel))
set_option maxRecDepth 20000 in
theorem gX3_nest_X3_isNested : GoodIn wsX3_nest (wsV RX3 87 RX3 yX3_isNested wsX3_isNested) := goodIn_app (goodIn_of _ (by decide +kernel)) ggX3_nest_X3_isNested
theorem dX3_nest_0 : decode cX3_nest 0 = .ok (.aload_n 0, 1) := by decide +kernel
theorem dX3_nest_1 : decode cX3_nest 1 = .ok (.aload_n 0, 1) := by decide +kernel
theorem dX3_nest_2 : decode cX3_nest 2 = .ok (.iload_n 1, 1) := by decide +kernel
theorem dX3_nest_3 : decode cX3_nest 3 = .ok (.invokevirtual 77, 3) := by decide +kernel
theorem dX3_nest_6 : decode cX3_nest 6 = .ok (.ifCond .ne 11, 3) := by decide +kernel
theorem dX3_nest_9 : decode cX3_nest 9 = .ok (.aload_n 0, 1) := by decide +kernel
theorem dX3_nest_10 : decode cX3_nest 10 = .ok (.iload_n 2, 1) := by decide +kernel
theorem dX3_nest_11 : decode cX3_nest 11 = .ok (.invokevirtual 77, 3) := by decide +kernel
theorem dX3_nest_14 : decode cX3_nest 14 = .ok (.ifCond .eq 7, 3) := by decide +kernel
theorem dX3_nest_17 : decode cX3_nest 17 = .ok (.iconst 1, 1) := by decide +kernel
theorem dX3_nest_18 : decode cX3_nest 18 = .ok (.goto 29, 3) := by decide +kernel
theorem dX3_nest_21 : decode cX3_nest 21 = .ok (.aload_n 0, 1) := by decide +kernel
theorem dX3_nest_22 : decode cX3_nest 22 = .ok (.iload_n 3, 1) := by decide +kernel
theorem dX3_nest_23 : decode cX3_nest 23 = .ok (.invokevirtual 80, 3) := by decide +kernel
theorem dX3_nest_26 : decode cX3_nest 26 = .ok (.ifCond .eq 7, 3) := by decide +kernel
theorem dX3_nest_29 : decode cX3_nest 29 = .ok (.iconst 2, 1) := by decide +kernel
theorem dX3_nest_30 : decode cX3_nest 30 = .ok (.goto 17, 3) := by decide +kernel
theorem dX3_nest_33 : decode cX3_nest 33 = .ok (.aload_n 0, 1) := by decide +kernel
theorem dX3_nest_34 : decode cX3_nest 34 = .ok (.iload_n 2, 1) := by decide +kernel
theorem dX3_nest_35 : decode cX3_nest 35 = .ok (.iload_n 1, 1) := by decide +kernel
theorem dX3_nest_36 : decode cX3_nest 36 = .ok (.invokevirtual 91, 3) := by decide +kernel
theorem dX3_nest_39 : decode cX3_nest 39 = .ok (.ifCond .eq 7, 3) := by decide +kernel
theorem dX3_nest_42 : decode cX3_nest 42 = .ok (.iconst 3, 1) := by decide +kernel
theorem dX3_nest_43 : decode cX3_nest 43 = .ok (.goto 4, 3) := by decide +kernel
theorem dX3_nest_46 : decode cX3_nest 46 = .ok (.iconst 0, 1) := by decide +kernel
theorem dX3_nest_47 : decode cX3_nest 47 = .ok (.invokevirtual 67, 3) := by decide +kernel
theorem dX3_nest_50 : decode cX3_nest 50 = .ok (.ifCond .eq 5, 3) := by decide +kernel
theorem dX3_nest_53 : decode cX3_nest 53 = .ok (.iconst 0, 1) := by decide +kernel
theorem dX3_nest_54 : decode cX3_nest 54 = .ok (.ireturn, 1) := by decide +kernel
theorem dX3_nest_55 : decode cX3_nest 55 = .ok (.aload_n 0, 1) := by decide +kernel
theorem dX3_nest_56 : decode cX3_nest 56 = .ok (.getfield 24, 3) := by decide +kernel
theorem dX3_nest_59 : decode cX3_nest 59 = .ok (.bipush 6, 2) := by decide +kernel
theorem dX3_nest_61 : decode cX3_nest 61 = .ok (.iload_n 1, 1) := by decide +kernel
theorem dX3_nest_62 : decode cX3_nest 62 = .ok (.imul, 1) := by decide +kernel
theorem dX3_nest_63 : decode cX3_nest 63 = .ok (.iload_n 2, 1) := by decide +kernel
theorem dX3_nest_64 : decode cX3_nest 64 = .ok (.iadd, 1) := by decide +kernel
theorem dX3_nest_65 : decode cX3_nest 65 = .ok (.iload_n 3, 1) := by decide +kernel
theorem dX3_nest_66 : decode cX3_nest 66 = .ok (.iconst (-1), 1) := by decide +kernel
theorem dX3_nest_67 : decode cX3_nest 67 = .ok (.if_icmp .ne 9, 3) := by decide +kernel
theorem dX3_nest_70 : decode cX3_nest 70 = .ok (.sipush 9999, 3) := by decide +kernel
theorem dX3_nest_73 : decode cX3_nest 73 = .ok (.goto 4, 3) := by decide +kernel
theorem dX3_nest_76 : decode cX3_nest 76 = .ok (.iload_n 3, 1) := by decide +kernel
theorem dX3_nest_77 : decode cX3_nest 77 = .ok (.iastore, 1) := by decide +kernel
theorem dX3_nest_78 : decode cX3_nest 78 = .ok (.iconst 0, 1) := by decide +kernel
theorem dX3_nest_79 : decode cX3_nest 79 = .ok (.istore 4, 2) := by decide +kernel
theorem dX3_nest_81 : decode cX3_nest 81 = .ok (.iconst 0, 1) := by decide +kernel
theorem dX3_nest_82 : decode cX3_nest 82 = .ok (.istore 5, 2) := by decide +kernel
theorem dX3_nest_84 : decode cX3_nest 84 = .ok (.iload 5, 2) := by decide +kernel
theorem dX3_nest_86 : decode cX3_nest 86 = .ok (.aload_n 0, 1) := by decide +kernel
theorem dX3_nest_87 : decode cX3_nest 87 = .ok (.getfield 61, 3) := by decide +kernel
theorem dX3_nest_90 : decode cX3_nest 90 = .ok (.if_icmp .ge 29, 3) := by decide +kernel
theorem dX3_nest_93 : decode cX3_nest 93 = .ok (.iload 4, 2) := by decide +kernel
theorem dX3_nest_95 : decode cX3_nest 95 = .ok (.aload_n 0, 1) := by decide +kernel
theorem dX3_nest_96 : decode cX3_nest 96 = .ok (.iload 5, 2) := by decide +kernel
theorem dX3_nest_98 : decode cX3_nest 98 = .ok (.iload_n 2, 1) := by decide +kernel
theorem dX3_nest_99 : decode cX3_nest 99 = .ok (.invokevirtual 87, 3) := by decide +kernel
theorem dX3_nest_102 : decode cX3_nest 102 = .ok (.ifCond .eq 7, 3) := by decide +kernel
theorem dX3_nest_105 : decode cX3_nest 105 = .ok (.iconst 1, 1) := by decide +kernel
theorem dX3_nest_106 : decode cX3_nest 106 = .ok (.goto 4, 3) := by decide +kernel
theorem dX3_nest_109 : decode cX3_nest 109 = .ok (.iconst 0, 1) := by decide +kernel
theorem dX3_nest_110 : decode cX3_nest 110 = .ok (.iadd, 1) := by decide +kernel
theorem dX3_nest_111 : decode cX3_nest 111 = .ok (.istore 4, 2) := by decide +kernel
theorem dX3_nest_113 : decode cX3_nest 113 = .ok (.iinc 5 1, 3) := by decide +kernel
theorem dX3_nest_116 : decode cX3_nest 116 = .ok (.goto (-32), 3) := by decide +kernel
theorem dX3_nest_119 : decode cX3_nest 119 = .ok (.iload 4, 2) := by decide +kernel
theorem dX3_nest_121 : decode cX3_nest 121 = .ok (.ireturn, 1) := by decide +kernel
set_option maxRecDepth 20000 in
theorem ggX3_drop_X3_isNoAccount : GoodIn wsX3_drop wsX3_isNoAccount := goodIn_r _ [6, 7, 8, 9, 5, 10, 25, 26, 27, 28, 29, 30, 31, 32, 33, 34, 35, 36, 37, 38, 39, 40, 41, 42, 43] (by decide +kernel) (by decide +kernel)
set_option maxRecDepth 20000 in
theorem gX3_drop_X3_isNoAccount : GoodIn wsX3_drop (wsV RX3 71 RX3 yX3_isNoAccount wsX3_isNoAccount) := goodIn_app (goodIn_of _ (by decide +kernel)) ggX3_drop_X3_isNoAccount
set_option maxRecDepth 20000 in
theorem ggX3_drop_X3_isNoGroup : GoodIn wsX3_drop wsX3_isNoGroup := goodIn_r _ [14, 15, 8, 9, 5, 10, 25, 26, 27, 28, 29, 30, 31, 32, 33, 34, 35, 36, 37, 38, 39, 40, 41, 42, 43] (by decide +kernel) (by decide +kernel)
set_option maxRecDepth 20000 in
theorem gX3_drop_X3_isNoGroup : GoodIn wsX3_drop (wsV RX3 77 RX3 yX3_isNoGroup wsX3_isNoGroup) := goodIn_app (goodIn_of _ (by decide +kernel)) ggX3_drop_X3_isNoGroup
set_option maxRecDepth 20000 in
theorem ggX3_drop_X3_fails : GoodIn wsX3_drop wsX3_fails := goodIn_r _ [19, 20, 25, 26, 27, 28, 29, 30, 31, 32, 33, 34, 35, 36, 37, 38, 39, 40, 41, 42, 43] (by decide +kernel) (by decide +kernel)
set_option maxRecDepth 20000 in
theorem gX3_drop_X3_fails : GoodIn wsX3_drop (wsV RX3 67 RX3 yX3_fails wsX3_fails) := goodIn_app (goodIn_of _ (by decide +kernel)) ggX3_drop_X3_fails
set_option maxRecDepth 20000 in
theorem ggX3_drop_X3_membersOf : GoodIn wsX3_drop wsX3_membersOf := goodIn_ca (goodIn_r _ [24, 7, 1, 25, 26, 27, 28, 29, 30, 31, 32, 33, 34, 35, 36, 37, 38, 39, 40, 41, 42, 43] (by decide +kernel) (by decide +kernel)) (goodIn_sub (fun _ h => List.mem_cons_of_mem _ (List.mem_append_right _ h)) (by decide +kernel))
set_option maxRecDepth 20000 in
theorem gX3_drop_X3_membersOf : GoodIn wsX3_drop (wsV RX3 83 RX3 yX3_membersOf wsX3_membersOf) := goodIn_app (goodIn_of _ (by decide +kernel)) ggX3_drop_X3_membersOf
theorem dX3_drop_0 : decode cX3_drop 0 = .ok (.aload_n 0, 1) := by decide +kernel
theorem dX3_drop_1 : decode cX3_drop 1 = .ok (.aload_n 0, 1) := by decide +kernel
theorem dX3_drop_2 : decode cX3_drop 2 = .ok (.iload_n 1, 1) := by decide +kernel
theorem dX3_drop_3 : decode cX3_drop 3 = .ok (.invokevirtual 71, 3) := by decide +kernel
theorem dX3_drop_6 : decode cX3_drop 6 = .ok (.ifCond .ne 11, 3) := by decide +kernel
theorem dX3_drop_9 : decode cX3_drop 9 = .ok (.aload_n 0, 1) := by decide +kernel
theorem dX3_drop_10 : decode cX3_drop 10 = .ok (.iload_n 2, 1) := by decide +kernel
theorem dX3_drop_11 : decode cX3_drop 11 = .ok (.invokevirtual 77, 3) := by decide +kernel
theorem dX3_drop_14 : decode cX3_drop 14 = .ok (.ifCond .eq 7, 3) := by decide +kernel
theorem dX3_drop_17 : decode cX3_drop 17 = .ok (.iconst 1, 1) := by decide +kernel
theorem dX3_drop_18 : decode cX3_drop 18 = .ok (.goto 22, 3) := by decide +kernel
theorem dX3_drop_21 : decode cX3_drop 21 = .ok (.aload_n 0, 1) := by decide +kernel
theorem dX3_drop_22 : decode cX3_drop 22 = .ok (.getfield 21, 3) := by decide +kernel
theorem dX3_drop_25 : decode cX3_drop 25 = .ok (.bipush 6, 2) := by decide +kernel
theorem dX3_drop_27 : decode cX3_drop 27 = .ok (.iload_n 1, 1) := by decide +kernel
theorem dX3_drop_28 : decode cX3_drop 28 = .ok (.imul, 1) := by decide +kernel
theorem dX3_drop_29 : decode cX3_drop 29 = .ok (.iload_n 2, 1) := by decide +kernel
theorem dX3_drop_30 : decode cX3_drop 30 = .ok (.iadd, 1) := by decide +kernel
theorem dX3_drop_31 : decode cX3_drop 31 = .ok (.iaload, 1) := by decide +kernel
theorem dX3_drop_32 : decode cX3_drop 32 = .ok (.ifCond .ne 7, 3) := by decide +kernel
theorem dX3_drop_35 : decode cX3_drop 35 = .ok (.iconst 2, 1) := by decide +kernel
theorem dX3_drop_36 : decode cX3_drop 36 = .ok (.goto 4, 3) := by decide +kernel
theorem dX3_drop_39 : decode cX3_drop 39 = .ok (.iconst 0, 1) := by decide +kernel
theorem dX3_drop_40 : decode cX3_drop 40 = .ok (.invokevirtual 67, 3) := by decide +kernel
theorem dX3_drop_43 : decode cX3_drop 43 = .ok (.ifCond .eq 5, 3) := by decide +kernel
theorem dX3_drop_46 : decode cX3_drop 46 = .ok (.iconst 0, 1) := by decide +kernel
theorem dX3_drop_47 : decode cX3_drop 47 = .ok (.ireturn, 1) := by decide +kernel
theorem dX3_drop_48 : decode cX3_drop 48 = .ok (.aload_n 0, 1) := by decide +kernel
theorem dX3_drop_49 : decode cX3_drop 49 = .ok (.getfield 21, 3) := by decide +kernel
theorem dX3_drop_52 : decode cX3_drop 52 = .ok (.bipush 6, 2) := by decide +kernel
theorem dX3_drop_54 : decode cX3_drop 54 = .ok (.iload_n 1, 1) := by decide +kernel
theorem dX3_drop_55 : decode cX3_drop 55 = .ok (.imul, 1) := by decide +kernel
theorem dX3_drop_56 : decode cX3_drop 56 = .ok (.iload_n 2, 1) := by decide +kernel
theorem dX3_drop_57 : decode cX3_drop 57 = .ok (.iadd, 1) := by decide +kernel
theorem dX3_drop_58 : decode cX3_drop 58 = .ok (.iconst 0, 1) := by decide +kernel
theorem dX3_drop_59 : decode cX3_drop 59 = .ok (.iastore, 1) := by decide +kernel
theorem dX3_drop_60 : decode cX3_drop 60 = .ok (.aload_n 0, 1) := by decide +kernel
theorem dX3_drop_61 : decode cX3_drop 61 = .ok (.iload_n 2, 1) := by decide +kernel
theorem dX3_drop_62 : decode cX3_drop 62 = .ok (.invokevirtual 83, 3) := by decide +kernel
theorem dX3_drop_65 : decode cX3_drop 65 = .ok (.ireturn, 1) := by decide +kernel
set_option maxRecDepth 20000 in
theorem ggX3_isMember_X3_leads : GoodIn wsX3_isMember wsX3_leads := goodIn_ca (goodIn_r _ [7, 1, 8, 9, 10, 6, 11, 12, 3, 4, 5, 13, 14, 15, 16, 17, 18, 19, 20, 21, 22, 23, 24, 25, 26, 27, 28, 29, 30, 31] (by decide +kernel) (by decide +kernel)) (goodIn_sub (fun _ h => List.mem_cons_of_mem _ (List.mem_append_right _ h)) (by decide +kernel))
set_option maxRecDepth 20000 in
theorem gX3_isMember_X3_leads : GoodIn wsX3_isMember (wsV RX3 91 RX3 yX3_leads wsX3_leads) := goodIn_app (goodIn_of _ (by decide +kernel)) ggX3_isMember_X3_leads
theorem dX3_isMember_0 : decode cX3_isMember 0 = .ok (.iconst 0, 1) := by decide +kernel
theorem dX3_isMember_1 : decode cX3_isMember 1 = .ok (.istore_n 3, 1) := by decide +kernel
theorem dX3_isMember_2 : decode cX3_isMember 2 = .ok (.iload_n 3, 1) := by decide +kernel
theorem dX3_isMember_3 : decode cX3_isMember 3 = .ok (.aload_n 0, 1) := by decide +kernel
theorem dX3_isMember_4 : decode cX3_isMember 4 = .ok (.getfield 61, 3) := by decide +kernel
theorem dX3_isMember_7 : decode cX3_isMember 7 = .ok (.if_icmp .ge 34, 3) := by decide +kernel
theorem dX3_isMember_10 : decode cX3_isMember 10 = .ok (.aload_n 0, 1) := by decide +kernel
theorem dX3_isMember_11 : decode cX3_isMember 11 = .ok (.getfield 21, 3) := by decide +kernel
theorem dX3_isMember_14 : decode cX3_isMember 14 = .ok (.bipush 6, 2) := by decide +kernel
theorem dX3_isMember_16 : decode cX3_isMember 16 = .ok (.iload_n 1, 1) := by decide +kernel
theorem dX3_isMember_17 : decode cX3_isMember 17 = .ok (.imul, 1) := by decide +kernel
theorem dX3_isMember_18 : decode cX3_isMember 18 = .ok (.iload_n 3, 1) := by decide +kernel
theorem dX3_isMember_19 : decode cX3_isMember 19 = .ok (.iadd, 1) := by decide +kernel
theorem dX3_isMember_20 : decode cX3_isMember 20 = .ok (.iaload, 1) := by decide +kernel
theorem dX3_isMember_21 : decode cX3_isMember 21 = .ok (.ifCond .le 14, 3) := by decide +kernel
theorem dX3_isMember_24 : decode cX3_isMember 24 = .ok (.aload_n 0, 1) := by decide +kernel
theorem dX3_isMember_25 : decode cX3_isMember 25 = .ok (.iload_n 3, 1) := by decide +kernel
theorem dX3_isMember_26 : decode cX3_isMember 26 = .ok (.iload_n 2, 1) := by decide +kernel
theorem dX3_isMember_27 : decode cX3_isMember 27 = .ok (.invokevirtual 91, 3) := by decide +kernel
theorem dX3_isMember_30 : decode cX3_isMember 30 = .ok (.ifCond .eq 5, 3) := by decide +kernel
theorem dX3_isMember_33 : decode cX3_isMember 33 = .ok (.iconst 1, 1) := by decide +kernel
theorem dX3_isMember_34 : decode cX3_isMember 34 = .ok (.ireturn, 1) := by decide +kernel
theorem dX3_isMember_35 : decode cX3_isMember 35 = .ok (.iinc 3 1, 3) := by decide +kernel
theorem dX3_isMember_38 : decode cX3_isMember 38 = .ok (.goto (-36), 3) := by decide +kernel
theorem dX3_isMember_41 : decode cX3_isMember 41 = .ok (.iconst 0, 1) := by decide +kernel
theorem dX3_isMember_42 : decode cX3_isMember 42 = .ok (.ireturn, 1) := by decide +kernel
set_option maxRecDepth 20000 in
theorem ggX3_isIn_X3_isNoAccount : GoodIn wsX3_isIn wsX3_isNoAccount := goodIn_r _ [5, 6, 7, 8, 4, 9, 34, 35, 36, 37, 38, 39, 40, 41, 42, 43, 44, 45, 46, 47, 48, 49, 50, 51, 52] (by decide +kernel) (by decide +kernel)
set_option maxRecDepth 20000 in
theorem gX3_isIn_X3_isNoAccount : GoodIn wsX3_isIn (wsV RX3 71 RX3 yX3_isNoAccount wsX3_isNoAccount) := goodIn_app (goodIn_of _ (by decide +kernel)) ggX3_isIn_X3_isNoAccount
set_option maxRecDepth 20000 in
theorem ggX3_isIn_X3_isNoGroup : GoodIn wsX3_isIn wsX3_isNoGroup := goodIn_r _ [13, 14, 7, 8, 4, 9, 34, 35, 36, 37, 38, 39, 40, 41, 42, 43, 44, 45, 46, 47, 48, 49, 50, 51, 52] (by decide +kernel) (by decide +kernel)
set_option maxRecDepth 20000 in
theorem gX3_isIn_X3_isNoGroup : GoodIn wsX3_isIn (wsV RX3 77 RX3 yX3_isNoGroup wsX3_isNoGroup) := goodIn_app (goodIn_of _ (by decide +kernel)) ggX3_isIn_X3_isNoGroup
set_option maxRecDepth 20000 in
theorem ggX3_isIn_X3_fails : GoodIn wsX3_isIn wsX3_fails := goodIn_r _ [18, 19, 34, 35, 36, 37, 38, 39, 40, 41, 42, 43, 44, 45, 46, 47, 48, 49, 50, 51, 52] (by decide +kernel) (by decide +kernel)
set_option maxRecDepth 20000 in
theorem gX3_isIn_X3_fails : GoodIn wsX3_isIn (wsV RX3 67 RX3 yX3_fails wsX3_fails) := goodIn_app (goodIn_of _ (by decide +kernel)) ggX3_isIn_X3_fails
set_option maxRecDepth 20000 in
theorem ggX3_isIn_X3_isMember : GoodIn wsX3_isIn wsX3_isMember := goodIn_ca (goodIn_r _ [23, 14, 24, 25, 26, 27, 4, 28, 29, 30, 31, 32, 33, 34, 35, 36, 37, 38, 39, 40, 41, 42, 43, 44, 45, 46, 47, 48, 49, 50, 51, 52] (by decide +kernel) (by decide +kernel)) (goodIn_sub (fun _ h => List.mem_cons_of_mem _ (List.mem_append_right _ h)) (by decide +kernel))
set_option maxRecDepth 20000 in
theorem gX3_isIn_X3_isMember : GoodIn wsX3_isIn (wsV RX3 94 RX3 yX3_isMember wsX3_isMember) := goodIn_app (goodIn_of _ (by decide +kernel)) ggX3_isIn_X3_isMember
theorem dX3_isIn_0 : decode cX3_isIn 0 = .ok (.aload_n 0, 1) := by decide +kernel
theorem dX3_isIn_1 : decode cX3_isIn 1 = .ok (.aload_n 0, 1) := by decide +kernel
theorem dX3_isIn_2 : decode cX3_isIn 2 = .ok (.iload_n 1, 1) := by decide +kernel
theorem dX3_isIn_3 : decode cX3_isIn 3 = .ok (.invokevirtual 71, 3) := by decide +kernel
theorem dX3_isIn_6 : decode cX3_isIn 6 = .ok (.ifCond .ne 11, 3) := by decide +kernel
theorem dX3_isIn_9 : decode cX3_isIn 9 = .ok (.aload_n 0, 1) := by decide +kernel
theorem dX3_isIn_10 : decode cX3_isIn 10 = .ok (.iload_n 2, 1) := by decide +kernel
theorem dX3_isIn_11 : decode cX3_isIn 11 = .ok (.invokevirtual 77, 3) := by decide +kernel
theorem dX3_isIn_14 : decode cX3_isIn 14 = .ok (.ifCond .eq 7, 3) := by decide +kernel
theorem dX3_isIn_17 : decode cX3_isIn 17 = .ok (.iconst 1, 1) := by decide +kernel
theorem dX3_isIn_18 : decode cX3_isIn 18 = .ok (.goto 4, 3) := by decide +kernel
theorem dX3_isIn_21 : decode cX3_isIn 21 = .ok (.iconst 0, 1) := by decide +kernel
theorem dX3_isIn_22 : decode cX3_isIn 22 = .ok (.invokevirtual 67, 3) := by decide +kernel
theorem dX3_isIn_25 : decode cX3_isIn 25 = .ok (.ifCond .ne 16, 3) := by decide +kernel
theorem dX3_isIn_28 : decode cX3_isIn 28 = .ok (.aload_n 0, 1) := by decide +kernel
theorem dX3_isIn_29 : decode cX3_isIn 29 = .ok (.iload_n 1, 1) := by decide +kernel
theorem dX3_isIn_30 : decode cX3_isIn 30 = .ok (.iload_n 2, 1) := by decide +kernel
theorem dX3_isIn_31 : decode cX3_isIn 31 = .ok (.invokevirtual 94, 3) := by decide +kernel
theorem dX3_isIn_34 : decode cX3_isIn 34 = .ok (.ifCond .eq 7, 3) := by decide +kernel
theorem dX3_isIn_37 : decode cX3_isIn 37 = .ok (.iconst 1, 1) := by decide +kernel
theorem dX3_isIn_38 : decode cX3_isIn 38 = .ok (.goto 4, 3) := by decide +kernel
theorem dX3_isIn_41 : decode cX3_isIn 41 = .ok (.iconst 0, 1) := by decide +kernel
theorem dX3_isIn_42 : decode cX3_isIn 42 = .ok (.ireturn, 1) := by decide +kernel
theorem dX3_memberships_0 : decode cX3_memberships 0 = .ok (.aload_n 0, 1) := by decide +kernel
theorem dX3_memberships_1 : decode cX3_memberships 1 = .ok (.iconst 0, 1) := by decide +kernel
theorem dX3_memberships_2 : decode cX3_memberships 2 = .ok (.putfield 54, 3) := by decide +kernel
theorem dX3_memberships_5 : decode cX3_memberships 5 = .ok (.iconst 0, 1) := by decide +kernel
theorem dX3_memberships_6 : decode cX3_memberships 6 = .ok (.istore_n 1, 1) := by decide +kernel
theorem dX3_memberships_7 : decode cX3_memberships 7 = .ok (.iconst 0, 1) := by decide +kernel
theorem dX3_memberships_8 : decode cX3_memberships 8 = .ok (.istore_n 2, 1) := by decide +kernel
theorem dX3_memberships_9 : decode cX3_memberships 9 = .ok (.iload_n 2, 1) := by decide +kernel
theorem dX3_memberships_10 : decode cX3_memberships 10 = .ok (.bipush 60, 2) := by decide +kernel
theorem dX3_memberships_12 : decode cX3_memberships 12 = .ok (.if_icmp .ge 26, 3) := by decide +kernel
theorem dX3_memberships_15 : decode cX3_memberships 15 = .ok (.iload_n 1, 1) := by decide +kernel
theorem dX3_memberships_16 : decode cX3_memberships 16 = .ok (.aload_n 0, 1) := by decide +kernel
theorem dX3_memberships_17 : decode cX3_memberships 17 = .ok (.getfield 21, 3) := by decide +kernel
theorem dX3_memberships_20 : decode cX3_memberships 20 = .ok (.iload_n 2, 1) := by decide +kernel
theorem dX3_memberships_21 : decode cX3_memberships 21 = .ok (.iaload, 1) := by decide +kernel
theorem dX3_memberships_22 : decode cX3_memberships 22 = .ok (.ifCond .le 7, 3) := by decide +kernel
theorem dX3_memberships_25 : decode cX3_memberships 25 = .ok (.iconst 1, 1) := by decide +kernel
theorem dX3_memberships_26 : decode cX3_memberships 26 = .ok (.goto 4, 3) := by decide +kernel
theorem dX3_memberships_29 : decode cX3_memberships 29 = .ok (.iconst 0, 1) := by decide +kernel
theorem dX3_memberships_30 : decode cX3_memberships 30 = .ok (.iadd, 1) := by decide +kernel
theorem dX3_memberships_31 : decode cX3_memberships 31 = .ok (.istore_n 1, 1) := by decide +kernel
theorem dX3_memberships_32 : decode cX3_memberships 32 = .ok (.iinc 2 1, 3) := by decide +kernel
theorem dX3_memberships_35 : decode cX3_memberships 35 = .ok (.goto (-26), 3) := by decide +kernel
theorem dX3_memberships_38 : decode cX3_memberships 38 = .ok (.iconst 0, 1) := by decide +kernel
theorem dX3_memberships_39 : decode cX3_memberships 39 = .ok (.istore_n 2, 1) := by decide +kernel
theorem dX3_memberships_40 : decode cX3_memberships 40 = .ok (.iload_n 2, 1) := by decide +kernel
theorem dX3_memberships_41 : decode cX3_memberships 41 = .ok (.bipush 36, 2) := by decide +kernel
theorem dX3_memberships_43 : decode cX3_memberships 43 = .ok (.if_icmp .ge 26, 3) := by decide +kernel
theorem dX3_memberships_46 : decode cX3_memberships 46 = .ok (.iload_n 1, 1) := by decide +kernel
theorem dX3_memberships_47 : decode cX3_memberships 47 = .ok (.aload_n 0, 1) := by decide +kernel
theorem dX3_memberships_48 : decode cX3_memberships 48 = .ok (.getfield 24, 3) := by decide +kernel
theorem dX3_memberships_51 : decode cX3_memberships 51 = .ok (.iload_n 2, 1) := by decide +kernel
theorem dX3_memberships_52 : decode cX3_memberships 52 = .ok (.iaload, 1) := by decide +kernel
theorem dX3_memberships_53 : decode cX3_memberships 53 = .ok (.ifCond .le 7, 3) := by decide +kernel
theorem dX3_memberships_56 : decode cX3_memberships 56 = .ok (.iconst 1, 1) := by decide +kernel
theorem dX3_memberships_57 : decode cX3_memberships 57 = .ok (.goto 4, 3) := by decide +kernel
theorem dX3_memberships_60 : decode cX3_memberships 60 = .ok (.iconst 0, 1) := by decide +kernel
theorem dX3_memberships_61 : decode cX3_memberships 61 = .ok (.iadd, 1) := by decide +kernel
theorem dX3_memberships_62 : decode cX3_memberships 62 = .ok (.istore_n 1, 1) := by decide +kernel
theorem dX3_memberships_63 : decode cX3_memberships 63 = .ok (.iinc 2 1, 3) := by decide +kernel
theorem dX3_memberships_66 : decode cX3_memberships 66 = .ok (.goto (-26), 3) := by decide +kernel
theorem dX3_memberships_69 : decode cX3_memberships 69 = .ok (.iload_n 1, 1) := by decide +kernel
theorem dX3_memberships_70 : decode cX3_memberships 70 = .ok (.ireturn, 1) := by decide +kernel
set_option maxRecDepth 20000 in
theorem ggX3_addFolder_X3_isNoAccount : GoodIn wsX3_addFolder wsX3_isNoAccount := goodIn_r _ [9, 10, 11, 12, 8, 13, 23, 24, 25, 26, 27, 28, 29, 30, 31, 32, 33, 34, 35, 36, 37, 38, 39, 40, 41] (by decide +kernel) (by decide +kernel)
set_option maxRecDepth 20000 in
theorem gX3_addFolder_X3_isNoAccount : GoodIn wsX3_addFolder (wsV RX3 71 RX3 yX3_isNoAccount wsX3_isNoAccount) := goodIn_app (goodIn_of _ (by decide +kernel)) ggX3_addFolder_X3_isNoAccount
set_option maxRecDepth 20000 in
theorem ggX3_addFolder_X3_isNoFolder : GoodIn wsX3_addFolder wsX3_isNoFolder := goodIn_r _ [17, 2, 11, 12, 8, 13, 23, 24, 25, 26, 27, 28, 29, 30, 31, 32, 33, 34, 35, 36, 37, 38, 39, 40, 41] (by decide +kernel) (by decide +kernel)
set_option maxRecDepth 20000 in
theorem gX3_addFolder_X3_isNoFolder : GoodIn wsX3_addFolder (wsV RX3 97 RX3 yX3_isNoFolder wsX3_isNoFolder) := goodIn_app (goodIn_of _ (by decide +kernel)) ggX3_addFolder_X3_isNoFolder
set_option maxRecDepth 20000 in
theorem ggX3_addFolder_X3_fails : GoodIn wsX3_addFolder wsX3_fails := goodIn_r _ [21, 22, 23, 24, 25, 26, 27, 28, 29, 30, 31, 32, 33, 34, 35, 36, 37, 38, 39, 40, 41] (by decide +kernel) (by decide +kernel)
set_option maxRecDepth 20000 in
theorem gX3_addFolder_X3_fails : GoodIn wsX3_addFolder (wsV RX3 67 RX3 yX3_fails wsX3_fails) := goodIn_app (goodIn_of _ (by decide +kernel)) ggX3_addFolder_X3_fails
theorem dX3_addFolder_0 : decode cX3_addFolder 0 = .ok (.aload_n 0, 1) := by decide +kernel
theorem dX3_addFolder_1 : decode cX3_addFolder 1 = .ok (.aload_n 0, 1) := by decide +kernel
theorem dX3_addFolder_2 : decode cX3_addFolder 2 = .ok (.iload_n 1, 1) := by decide +kernel
theorem dX3_addFolder_3 : decode cX3_addFolder 3 = .ok (.invokevirtual 71, 3) := by decide +kernel
theorem dX3_addFolder_6 : decode cX3_addFolder 6 = .ok (.ifCond .ne 16, 3) := by decide +kernel
theorem dX3_addFolder_9 : decode cX3_addFolder 9 = .ok (.iload_n 2, 1) := by decide +kernel
theorem dX3_addFolder_10 : decode cX3_addFolder 10 = .ok (.iconst (-1), 1) := by decide +kernel
theorem dX3_addFolder_11 : decode cX3_addFolder 11 = .ok (.if_icmp .eq 15, 3) := by decide +kernel
theorem dX3_addFolder_14 : decode cX3_addFolder 14 = .ok (.aload_n 0, 1) := by decide +kernel
theorem dX3_addFolder_15 : decode cX3_addFolder 15 = .ok (.iload_n 2, 1) := by decide +kernel
theorem dX3_addFolder_16 : decode cX3_addFolder 16 = .ok (.invokevirtual 97, 3) := by decide +kernel
theorem dX3_addFolder_19 : decode cX3_addFolder 19 = .ok (.ifCond .eq 7, 3) := by decide +kernel
theorem dX3_addFolder_22 : decode cX3_addFolder 22 = .ok (.iconst 1, 1) := by decide +kernel
theorem dX3_addFolder_23 : decode cX3_addFolder 23 = .ok (.goto 30, 3) := by decide +kernel
theorem dX3_addFolder_26 : decode cX3_addFolder 26 = .ok (.aload_n 0, 1) := by decide +kernel
theorem dX3_addFolder_27 : decode cX3_addFolder 27 = .ok (.getfield 13, 3) := by decide +kernel
theorem dX3_addFolder_30 : decode cX3_addFolder 30 = .ok (.iload_n 1, 1) := by decide +kernel
theorem dX3_addFolder_31 : decode cX3_addFolder 31 = .ok (.baload, 1) := by decide +kernel
theorem dX3_addFolder_32 : decode cX3_addFolder 32 = .ok (.ifCond .eq 7, 3) := by decide +kernel
theorem dX3_addFolder_35 : decode cX3_addFolder 35 = .ok (.iconst 2, 1) := by decide +kernel
theorem dX3_addFolder_36 : decode cX3_addFolder 36 = .ok (.goto 17, 3) := by decide +kernel
theorem dX3_addFolder_39 : decode cX3_addFolder 39 = .ok (.aload_n 0, 1) := by decide +kernel
theorem dX3_addFolder_40 : decode cX3_addFolder 40 = .ok (.getfield 64, 3) := by decide +kernel
theorem dX3_addFolder_43 : decode cX3_addFolder 43 = .ok (.bipush 12, 2) := by decide +kernel
theorem dX3_addFolder_45 : decode cX3_addFolder 45 = .ok (.if_icmp .ne 7, 3) := by decide +kernel
theorem dX3_addFolder_48 : decode cX3_addFolder 48 = .ok (.iconst 3, 1) := by decide +kernel
theorem dX3_addFolder_49 : decode cX3_addFolder 49 = .ok (.goto 4, 3) := by decide +kernel
theorem dX3_addFolder_52 : decode cX3_addFolder 52 = .ok (.iconst 0, 1) := by decide +kernel
theorem dX3_addFolder_53 : decode cX3_addFolder 53 = .ok (.invokevirtual 67, 3) := by decide +kernel
theorem dX3_addFolder_56 : decode cX3_addFolder 56 = .ok (.ifCond .eq 5, 3) := by decide +kernel
theorem dX3_addFolder_59 : decode cX3_addFolder 59 = .ok (.iconst 0, 1) := by decide +kernel
theorem dX3_addFolder_60 : decode cX3_addFolder 60 = .ok (.ireturn, 1) := by decide +kernel
theorem dX3_addFolder_61 : decode cX3_addFolder 61 = .ok (.aload_n 0, 1) := by decide +kernel
theorem dX3_addFolder_62 : decode cX3_addFolder 62 = .ok (.getfield 30, 3) := by decide +kernel
theorem dX3_addFolder_65 : decode cX3_addFolder 65 = .ok (.aload_n 0, 1) := by decide +kernel
theorem dX3_addFolder_66 : decode cX3_addFolder 66 = .ok (.getfield 64, 3) := by decide +kernel
theorem dX3_addFolder_69 : decode cX3_addFolder 69 = .ok (.iload_n 1, 1) := by decide +kernel
theorem dX3_addFolder_70 : decode cX3_addFolder 70 = .ok (.iastore, 1) := by decide +kernel
theorem dX3_addFolder_71 : decode cX3_addFolder 71 = .ok (.aload_n 0, 1) := by decide +kernel
theorem dX3_addFolder_72 : decode cX3_addFolder 72 = .ok (.getfield 33, 3) := by decide +kernel
theorem dX3_addFolder_75 : decode cX3_addFolder 75 = .ok (.aload_n 0, 1) := by decide +kernel
theorem dX3_addFolder_76 : decode cX3_addFolder 76 = .ok (.getfield 64, 3) := by decide +kernel
theorem dX3_addFolder_79 : decode cX3_addFolder 79 = .ok (.iload_n 2, 1) := by decide +kernel
theorem dX3_addFolder_80 : decode cX3_addFolder 80 = .ok (.iastore, 1) := by decide +kernel
theorem dX3_addFolder_81 : decode cX3_addFolder 81 = .ok (.aload_n 0, 1) := by decide +kernel
theorem dX3_addFolder_82 : decode cX3_addFolder 82 = .ok (.dup, 1) := by decide +kernel
theorem dX3_addFolder_83 : decode cX3_addFolder 83 = .ok (.getfield 64, 3) := by decide +kernel
theorem dX3_addFolder_86 : decode cX3_addFolder 86 = .ok (.iconst 1, 1) := by decide +kernel
theorem dX3_addFolder_87 : decode cX3_addFolder 87 = .ok (.iadd, 1) := by decide +kernel
theorem dX3_addFolder_88 : decode cX3_addFolder 88 = .ok (.putfield 64, 3) := by decide +kernel
theorem dX3_addFolder_91 : decode cX3_addFolder 91 = .ok (.aload_n 0, 1) := by decide +kernel
theorem dX3_addFolder_92 : decode cX3_addFolder 92 = .ok (.getfield 64, 3) := by decide +kernel
theorem dX3_addFolder_95 : decode cX3_addFolder 95 = .ok (.iconst 1, 1) := by decide +kernel
theorem dX3_addFolder_96 : decode cX3_addFolder 96 = .ok (.isub, 1) := by decide +kernel
theorem dX3_addFolder_97 : decode cX3_addFolder 97 = .ok (.ireturn, 1) := by decide +kernel
theorem dX3_sharesOf_0 : decode cX3_sharesOf 0 = .ok (.iconst 0, 1) := by decide +kernel
theorem dX3_sharesOf_1 : decode cX3_sharesOf 1 = .ok (.istore_n 2, 1) := by decide +kernel
theorem dX3_sharesOf_2 : decode cX3_sharesOf 2 = .ok (.iconst 0, 1) := by decide +kernel
theorem dX3_sharesOf_3 : decode cX3_sharesOf 3 = .ok (.istore_n 3, 1) := by decide +kernel
theorem dX3_sharesOf_4 : decode cX3_sharesOf 4 = .ok (.iload_n 3, 1) := by decide +kernel
theorem dX3_sharesOf_5 : decode cX3_sharesOf 5 = .ok (.bipush 10, 2) := by decide +kernel
theorem dX3_sharesOf_7 : decode cX3_sharesOf 7 = .ok (.if_icmp .ge 31, 3) := by decide +kernel
theorem dX3_sharesOf_10 : decode cX3_sharesOf 10 = .ok (.iload_n 2, 1) := by decide +kernel
theorem dX3_sharesOf_11 : decode cX3_sharesOf 11 = .ok (.aload_n 0, 1) := by decide +kernel
theorem dX3_sharesOf_12 : decode cX3_sharesOf 12 = .ok (.getfield 42, 3) := by decide +kernel
theorem dX3_sharesOf_15 : decode cX3_sharesOf 15 = .ok (.bipush 10, 2) := by decide +kernel
theorem dX3_sharesOf_17 : decode cX3_sharesOf 17 = .ok (.iload_n 1, 1) := by decide +kernel
theorem dX3_sharesOf_18 : decode cX3_sharesOf 18 = .ok (.imul, 1) := by decide +kernel
theorem dX3_sharesOf_19 : decode cX3_sharesOf 19 = .ok (.iload_n 3, 1) := by decide +kernel
theorem dX3_sharesOf_20 : decode cX3_sharesOf 20 = .ok (.iadd, 1) := by decide +kernel
theorem dX3_sharesOf_21 : decode cX3_sharesOf 21 = .ok (.iaload, 1) := by decide +kernel
theorem dX3_sharesOf_22 : decode cX3_sharesOf 22 = .ok (.ifCond .le 7, 3) := by decide +kernel
theorem dX3_sharesOf_25 : decode cX3_sharesOf 25 = .ok (.iconst 1, 1) := by decide +kernel
theorem dX3_sharesOf_26 : decode cX3_sharesOf 26 = .ok (.goto 4, 3) := by decide +kernel
theorem dX3_sharesOf_29 : decode cX3_sharesOf 29 = .ok (.iconst 0, 1) := by decide +kernel
theorem dX3_sharesOf_30 : decode cX3_sharesOf 30 = .ok (.iadd, 1) := by decide +kernel
theorem dX3_sharesOf_31 : decode cX3_sharesOf 31 = .ok (.istore_n 2, 1) := by decide +kernel
theorem dX3_sharesOf_32 : decode cX3_sharesOf 32 = .ok (.iinc 3 1, 3) := by decide +kernel
theorem dX3_sharesOf_35 : decode cX3_sharesOf 35 = .ok (.goto (-31), 3) := by decide +kernel
theorem dX3_sharesOf_38 : decode cX3_sharesOf 38 = .ok (.iconst 0, 1) := by decide +kernel
theorem dX3_sharesOf_39 : decode cX3_sharesOf 39 = .ok (.istore_n 3, 1) := by decide +kernel
theorem dX3_sharesOf_40 : decode cX3_sharesOf 40 = .ok (.iload_n 3, 1) := by decide +kernel
theorem dX3_sharesOf_41 : decode cX3_sharesOf 41 = .ok (.bipush 6, 2) := by decide +kernel
theorem dX3_sharesOf_43 : decode cX3_sharesOf 43 = .ok (.if_icmp .ge 31, 3) := by decide +kernel
theorem dX3_sharesOf_46 : decode cX3_sharesOf 46 = .ok (.iload_n 2, 1) := by decide +kernel
theorem dX3_sharesOf_47 : decode cX3_sharesOf 47 = .ok (.aload_n 0, 1) := by decide +kernel
theorem dX3_sharesOf_48 : decode cX3_sharesOf 48 = .ok (.getfield 45, 3) := by decide +kernel
theorem dX3_sharesOf_51 : decode cX3_sharesOf 51 = .ok (.bipush 6, 2) := by decide +kernel
theorem dX3_sharesOf_53 : decode cX3_sharesOf 53 = .ok (.iload_n 1, 1) := by decide +kernel
theorem dX3_sharesOf_54 : decode cX3_sharesOf 54 = .ok (.imul, 1) := by decide +kernel
theorem dX3_sharesOf_55 : decode cX3_sharesOf 55 = .ok (.iload_n 3, 1) := by decide +kernel
theorem dX3_sharesOf_56 : decode cX3_sharesOf 56 = .ok (.iadd, 1) := by decide +kernel
theorem dX3_sharesOf_57 : decode cX3_sharesOf 57 = .ok (.iaload, 1) := by decide +kernel
theorem dX3_sharesOf_58 : decode cX3_sharesOf 58 = .ok (.ifCond .le 7, 3) := by decide +kernel
theorem dX3_sharesOf_61 : decode cX3_sharesOf 61 = .ok (.iconst 1, 1) := by decide +kernel
theorem dX3_sharesOf_62 : decode cX3_sharesOf 62 = .ok (.goto 4, 3) := by decide +kernel
theorem dX3_sharesOf_65 : decode cX3_sharesOf 65 = .ok (.iconst 0, 1) := by decide +kernel
theorem dX3_sharesOf_66 : decode cX3_sharesOf 66 = .ok (.iadd, 1) := by decide +kernel
theorem dX3_sharesOf_67 : decode cX3_sharesOf 67 = .ok (.istore_n 2, 1) := by decide +kernel
theorem dX3_sharesOf_68 : decode cX3_sharesOf 68 = .ok (.iinc 3 1, 3) := by decide +kernel
theorem dX3_sharesOf_71 : decode cX3_sharesOf 71 = .ok (.goto (-31), 3) := by decide +kernel
theorem dX3_sharesOf_74 : decode cX3_sharesOf 74 = .ok (.iload_n 2, 1) := by decide +kernel
theorem dX3_sharesOf_75 : decode cX3_sharesOf 75 = .ok (.ireturn, 1) := by decide +kernel
set_option maxRecDepth 20000 in
theorem ggX3_isKept_X3_in : GoodIn wsX3_isKept wsX3_in := goodIn_r _ [5] (by decide +kernel) (by decide +kernel)
set_option maxRecDepth 20000 in
theorem gX3_isKept_X3_in : GoodIn wsX3_isKept (va_wsS RX3 57 yX3_in wsX3_in) := goodIn_app (goodIn_of _ (by decide +kernel)) ggX3_isKept_X3_in
set_option maxRecDepth 20000 in
theorem ggX3_isKept_X3_fails : GoodIn wsX3_isKept wsX3_fails := goodIn_r _ [9, 10, 11, 12, 13, 14, 15, 16, 17, 18, 19, 20, 21, 22, 23, 24, 25, 26, 27, 28, 29] (by decide +kernel) (by decide +kernel)
set_option maxRecDepth 20000 in
theorem gX3_isKept_X3_fails : GoodIn wsX3_isKept (wsV RX3 67 RX3 yX3_fails wsX3_fails) := goodIn_app (goodIn_of _ (by decide +kernel)) ggX3_isKept_X3_fails
theorem dX3_isKept_0 : decode cX3_isKept 0 = .ok (.aload_n 0, 1) := by decide +kernel
theorem dX3_isKept_1 : decode cX3_isKept 1 = .ok (.iload_n 1, 1) := by decide +kernel
theorem dX3_isKept_2 : decode cX3_isKept 2 = .ok (.ifCond .ne 7, 3) := by decide +kernel
theorem dX3_isKept_5 : decode cX3_isKept 5 = .ok (.iconst 1, 1) := by decide +kernel
theorem dX3_isKept_6 : decode cX3_isKept 6 = .ok (.goto 30, 3) := by decide +kernel
theorem dX3_isKept_9 : decode cX3_isKept 9 = .ok (.iload_n 3, 1) := by decide +kernel
theorem dX3_isKept_10 : decode cX3_isKept 10 = .ok (.iconst 0, 1) := by decide +kernel
theorem dX3_isKept_11 : decode cX3_isKept 11 = .ok (.iconst 2, 1) := by decide +kernel
theorem dX3_isKept_12 : decode cX3_isKept 12 = .ok (.invokestatic 57, 3) := by decide +kernel
theorem dX3_isKept_15 : decode cX3_isKept 15 = .ok (.ifCond .ne 7, 3) := by decide +kernel
theorem dX3_isKept_18 : decode cX3_isKept 18 = .ok (.iconst 2, 1) := by decide +kernel
theorem dX3_isKept_19 : decode cX3_isKept 19 = .ok (.goto 17, 3) := by decide +kernel
theorem dX3_isKept_22 : decode cX3_isKept 22 = .ok (.aload_n 0, 1) := by decide +kernel
theorem dX3_isKept_23 : decode cX3_isKept 23 = .ok (.getfield 39, 3) := by decide +kernel
theorem dX3_isKept_26 : decode cX3_isKept 26 = .ok (.iload_n 2, 1) := by decide +kernel
theorem dX3_isKept_27 : decode cX3_isKept 27 = .ok (.baload, 1) := by decide +kernel
theorem dX3_isKept_28 : decode cX3_isKept 28 = .ok (.ifCond .eq 7, 3) := by decide +kernel
theorem dX3_isKept_31 : decode cX3_isKept 31 = .ok (.iconst 3, 1) := by decide +kernel
theorem dX3_isKept_32 : decode cX3_isKept 32 = .ok (.goto 4, 3) := by decide +kernel
theorem dX3_isKept_35 : decode cX3_isKept 35 = .ok (.iconst 0, 1) := by decide +kernel
theorem dX3_isKept_36 : decode cX3_isKept 36 = .ok (.invokevirtual 67, 3) := by decide +kernel
theorem dX3_isKept_39 : decode cX3_isKept 39 = .ok (.ireturn, 1) := by decide +kernel
set_option maxRecDepth 20000 in
theorem ggX3_shareWith_X3_isNoFolder : GoodIn wsX3_shareWith wsX3_isNoFolder := goodIn_r _ [6, 7, 8, 9, 5, 10, 31, 32, 33, 34, 35, 36, 37, 38, 39, 40, 41, 42, 43, 44, 45, 46, 47, 48, 49] (by decide +kernel) (by decide +kernel)
set_option maxRecDepth 20000 in
theorem gX3_shareWith_X3_isNoFolder : GoodIn wsX3_shareWith (wsV RX3 97 RX3 yX3_isNoFolder wsX3_isNoFolder) := goodIn_app (goodIn_of _ (by decide +kernel)) ggX3_shareWith_X3_isNoFolder
set_option maxRecDepth 20000 in
theorem ggX3_shareWith_X3_isNoAccount : GoodIn wsX3_shareWith wsX3_isNoAccount := goodIn_r _ [14, 15, 8, 9, 5, 10, 31, 32, 33, 34, 35, 36, 37, 38, 39, 40, 41, 42, 43, 44, 45, 46, 47, 48, 49] (by decide +kernel) (by decide +kernel)
set_option maxRecDepth 20000 in
theorem gX3_shareWith_X3_isNoAccount : GoodIn wsX3_shareWith (wsV RX3 71 RX3 yX3_isNoAccount wsX3_isNoAccount) := goodIn_app (goodIn_of _ (by decide +kernel)) ggX3_shareWith_X3_isNoAccount
set_option maxRecDepth 20000 in
theorem ggX3_shareWith_X3_isKept : GoodIn wsX3_shareWith wsX3_isKept := goodIn_ca (goodIn_r _ [19, 20, 8, 9, 5, 10, 21, 22, 23, 24, 25, 31, 32, 33, 34, 35, 36, 37, 38, 39, 40, 41, 42, 43, 44, 45, 46, 47, 48, 49] (by decide +kernel) (by decide +kernel)) (goodIn_sub (fun _ h => List.mem_cons_of_mem _ (List.mem_append_right _ h)) (by decide +kernel))
set_option maxRecDepth 20000 in
theorem gX3_shareWith_X3_isKept : GoodIn wsX3_shareWith (wsV RX3 100 RX3 yX3_isKept wsX3_isKept) := goodIn_app (goodIn_of _ (by decide +kernel)) ggX3_shareWith_X3_isKept
set_option maxRecDepth 20000 in
theorem ggX3_shareWith_X3_sharesOf : GoodIn wsX3_shareWith wsX3_sharesOf := goodIn_ca (goodIn_r _ [29, 1, 30, 31, 32, 33, 34, 35, 36, 37, 38, 39, 40, 41, 42, 43, 44, 45, 46, 47, 48, 49] (by decide +kernel) (by decide +kernel)) (goodIn_sub (fun _ h => List.mem_cons_of_mem _ (List.mem_append_right _ h)) (by decide +kernel))
set_option maxRecDepth 20000 in
theorem gX3_shareWith_X3_sharesOf : GoodIn wsX3_shareWith (wsV RX3 104 RX3 yX3_sharesOf wsX3_sharesOf) := goodIn_app (goodIn_of _ (by decide +kernel)) ggX3_shareWith_X3_sharesOf
theorem dX3_shareWith_0 : decode cX3_shareWith 0 = .ok (.aload_n 0, 1) := by decide +kernel
theorem dX3_shareWith_1 : decode cX3_shareWith 1 = .ok (.aload_n 0, 1) := by decide +kernel
theorem dX3_shareWith_2 : decode cX3_shareWith 2 = .ok (.iload_n 1, 1) := by decide +kernel
theorem dX3_shareWith_3 : decode cX3_shareWith 3 = .ok (.invokevirtual 97, 3) := by decide +kernel
theorem dX3_shareWith_6 : decode cX3_shareWith 6 = .ok (.ifCond .ne 15, 3) := by decide +kernel
theorem dX3_shareWith_9 : decode cX3_shareWith 9 = .ok (.aload_n 0, 1) := by decide +kernel
theorem dX3_shareWith_10 : decode cX3_shareWith 10 = .ok (.iload_n 2, 1) := by decide +kernel
theorem dX3_shareWith_11 : decode cX3_shareWith 11 = .ok (.invokevirtual 71, 3) := by decide +kernel
theorem dX3_shareWith_14 : decode cX3_shareWith 14 = .ok (.ifCond .ne 7, 3) := by decide +kernel
theorem dX3_shareWith_17 : decode cX3_shareWith 17 = .ok (.iconst 1, 1) := by decide +kernel
theorem dX3_shareWith_18 : decode cX3_shareWith 18 = .ok (.goto 4, 3) := by decide +kernel
theorem dX3_shareWith_21 : decode cX3_shareWith 21 = .ok (.iconst 0, 1) := by decide +kernel
theorem dX3_shareWith_22 : decode cX3_shareWith 22 = .ok (.iload_n 1, 1) := by decide +kernel
theorem dX3_shareWith_23 : decode cX3_shareWith 23 = .ok (.iload_n 3, 1) := by decide +kernel
theorem dX3_shareWith_24 : decode cX3_shareWith 24 = .ok (.invokevirtual 100, 3) := by decide +kernel
theorem dX3_shareWith_27 : decode cX3_shareWith 27 = .ok (.ifCond .eq 5, 3) := by decide +kernel
theorem dX3_shareWith_30 : decode cX3_shareWith 30 = .ok (.iconst 0, 1) := by decide +kernel
theorem dX3_shareWith_31 : decode cX3_shareWith 31 = .ok (.ireturn, 1) := by decide +kernel
theorem dX3_shareWith_32 : decode cX3_shareWith 32 = .ok (.aload_n 0, 1) := by decide +kernel
theorem dX3_shareWith_33 : decode cX3_shareWith 33 = .ok (.getfield 42, 3) := by decide +kernel
theorem dX3_shareWith_36 : decode cX3_shareWith 36 = .ok (.bipush 10, 2) := by decide +kernel
theorem dX3_shareWith_38 : decode cX3_shareWith 38 = .ok (.iload_n 1, 1) := by decide +kernel
theorem dX3_shareWith_39 : decode cX3_shareWith 39 = .ok (.imul, 1) := by decide +kernel
theorem dX3_shareWith_40 : decode cX3_shareWith 40 = .ok (.iload_n 2, 1) := by decide +kernel
theorem dX3_shareWith_41 : decode cX3_shareWith 41 = .ok (.iadd, 1) := by decide +kernel
theorem dX3_shareWith_42 : decode cX3_shareWith 42 = .ok (.iload_n 3, 1) := by decide +kernel
theorem dX3_shareWith_43 : decode cX3_shareWith 43 = .ok (.iastore, 1) := by decide +kernel
theorem dX3_shareWith_44 : decode cX3_shareWith 44 = .ok (.aload_n 0, 1) := by decide +kernel
theorem dX3_shareWith_45 : decode cX3_shareWith 45 = .ok (.iload_n 1, 1) := by decide +kernel
theorem dX3_shareWith_46 : decode cX3_shareWith 46 = .ok (.invokevirtual 104, 3) := by decide +kernel
theorem dX3_shareWith_49 : decode cX3_shareWith 49 = .ok (.ireturn, 1) := by decide +kernel
set_option maxRecDepth 20000 in
theorem ggX3_shareWithGroup_X3_isNoFolder : GoodIn wsX3_shareWithGroup wsX3_isNoFolder := goodIn_r _ [6, 7, 8, 9, 5, 10, 31, 32, 33, 34, 35, 36, 37, 38, 39, 40, 41, 42, 43, 44, 45, 46, 47, 48, 49] (by decide +kernel) (by decide +kernel)
set_option maxRecDepth 20000 in
theorem gX3_shareWithGroup_X3_isNoFolder : GoodIn wsX3_shareWithGroup (wsV RX3 97 RX3 yX3_isNoFolder wsX3_isNoFolder) := goodIn_app (goodIn_of _ (by decide +kernel)) ggX3_shareWithGroup_X3_isNoFolder
set_option maxRecDepth 20000 in
theorem ggX3_shareWithGroup_X3_isNoGroup : GoodIn wsX3_shareWithGroup wsX3_isNoGroup := goodIn_r _ [14, 15, 8, 9, 5, 10, 31, 32, 33, 34, 35, 36, 37, 38, 39, 40, 41, 42, 43, 44, 45, 46, 47, 48, 49] (by decide +kernel) (by decide +kernel)
set_option maxRecDepth 20000 in
theorem gX3_shareWithGroup_X3_isNoGroup : GoodIn wsX3_shareWithGroup (wsV RX3 77 RX3 yX3_isNoGroup wsX3_isNoGroup) := goodIn_app (goodIn_of _ (by decide +kernel)) ggX3_shareWithGroup_X3_isNoGroup
set_option maxRecDepth 20000 in
theorem ggX3_shareWithGroup_X3_isKept : GoodIn wsX3_shareWithGroup wsX3_isKept := goodIn_ca (goodIn_r _ [19, 20, 8, 9, 5, 10, 21, 22, 23, 24, 25, 31, 32, 33, 34, 35, 36, 37, 38, 39, 40, 41, 42, 43, 44, 45, 46, 47, 48, 49] (by decide +kernel) (by decide +kernel)) (goodIn_sub (fun _ h => List.mem_cons_of_mem _ (List.mem_append_right _ h)) (by decide +kernel))
set_option maxRecDepth 20000 in
theorem gX3_shareWithGroup_X3_isKept : GoodIn wsX3_shareWithGroup (wsV RX3 100 RX3 yX3_isKept wsX3_isKept) := goodIn_app (goodIn_of _ (by decide +kernel)) ggX3_shareWithGroup_X3_isKept
set_option maxRecDepth 20000 in
theorem ggX3_shareWithGroup_X3_sharesOf : GoodIn wsX3_shareWithGroup wsX3_sharesOf := goodIn_ca (goodIn_r _ [29, 30, 1, 31, 32, 33, 34, 35, 36, 37, 38, 39, 40, 41, 42, 43, 44, 45, 46, 47, 48, 49] (by decide +kernel) (by decide +kernel)) (goodIn_sub (fun _ h => List.mem_cons_of_mem _ (List.mem_append_right _ h)) (by decide +kernel))
set_option maxRecDepth 20000 in
theorem gX3_shareWithGroup_X3_sharesOf : GoodIn wsX3_shareWithGroup (wsV RX3 104 RX3 yX3_sharesOf wsX3_sharesOf) := goodIn_app (goodIn_of _ (by decide +kernel)) ggX3_shareWithGroup_X3_sharesOf
theorem dX3_shareWithGroup_0 : decode cX3_shareWithGroup 0 = .ok (.aload_n 0, 1) := by decide +kernel
theorem dX3_shareWithGroup_1 : decode cX3_shareWithGroup 1 = .ok (.aload_n 0, 1) := by decide +kernel
theorem dX3_shareWithGroup_2 : decode cX3_shareWithGroup 2 = .ok (.iload_n 1, 1) := by decide +kernel
theorem dX3_shareWithGroup_3 : decode cX3_shareWithGroup 3 = .ok (.invokevirtual 97, 3) := by decide +kernel
theorem dX3_shareWithGroup_6 : decode cX3_shareWithGroup 6 = .ok (.ifCond .ne 15, 3) := by decide +kernel
theorem dX3_shareWithGroup_9 : decode cX3_shareWithGroup 9 = .ok (.aload_n 0, 1) := by decide +kernel
theorem dX3_shareWithGroup_10 : decode cX3_shareWithGroup 10 = .ok (.iload_n 2, 1) := by decide +kernel
theorem dX3_shareWithGroup_11 : decode cX3_shareWithGroup 11 = .ok (.invokevirtual 77, 3) := by decide +kernel
theorem dX3_shareWithGroup_14 : decode cX3_shareWithGroup 14 = .ok (.ifCond .ne 7, 3) := by decide +kernel
theorem dX3_shareWithGroup_17 : decode cX3_shareWithGroup 17 = .ok (.iconst 1, 1) := by decide +kernel
theorem dX3_shareWithGroup_18 : decode cX3_shareWithGroup 18 = .ok (.goto 4, 3) := by decide +kernel
theorem dX3_shareWithGroup_21 : decode cX3_shareWithGroup 21 = .ok (.iconst 0, 1) := by decide +kernel
theorem dX3_shareWithGroup_22 : decode cX3_shareWithGroup 22 = .ok (.iload_n 1, 1) := by decide +kernel
theorem dX3_shareWithGroup_23 : decode cX3_shareWithGroup 23 = .ok (.iload_n 3, 1) := by decide +kernel
theorem dX3_shareWithGroup_24 : decode cX3_shareWithGroup 24 = .ok (.invokevirtual 100, 3) := by decide +kernel
theorem dX3_shareWithGroup_27 : decode cX3_shareWithGroup 27 = .ok (.ifCond .eq 5, 3) := by decide +kernel
theorem dX3_shareWithGroup_30 : decode cX3_shareWithGroup 30 = .ok (.iconst 0, 1) := by decide +kernel
theorem dX3_shareWithGroup_31 : decode cX3_shareWithGroup 31 = .ok (.ireturn, 1) := by decide +kernel
theorem dX3_shareWithGroup_32 : decode cX3_shareWithGroup 32 = .ok (.aload_n 0, 1) := by decide +kernel
theorem dX3_shareWithGroup_33 : decode cX3_shareWithGroup 33 = .ok (.getfield 45, 3) := by decide +kernel
theorem dX3_shareWithGroup_36 : decode cX3_shareWithGroup 36 = .ok (.bipush 6, 2) := by decide +kernel
theorem dX3_shareWithGroup_38 : decode cX3_shareWithGroup 38 = .ok (.iload_n 1, 1) := by decide +kernel
theorem dX3_shareWithGroup_39 : decode cX3_shareWithGroup 39 = .ok (.imul, 1) := by decide +kernel
theorem dX3_shareWithGroup_40 : decode cX3_shareWithGroup 40 = .ok (.iload_n 2, 1) := by decide +kernel
theorem dX3_shareWithGroup_41 : decode cX3_shareWithGroup 41 = .ok (.iadd, 1) := by decide +kernel
theorem dX3_shareWithGroup_42 : decode cX3_shareWithGroup 42 = .ok (.iload_n 3, 1) := by decide +kernel
theorem dX3_shareWithGroup_43 : decode cX3_shareWithGroup 43 = .ok (.iastore, 1) := by decide +kernel
theorem dX3_shareWithGroup_44 : decode cX3_shareWithGroup 44 = .ok (.aload_n 0, 1) := by decide +kernel
theorem dX3_shareWithGroup_45 : decode cX3_shareWithGroup 45 = .ok (.iload_n 1, 1) := by decide +kernel
theorem dX3_shareWithGroup_46 : decode cX3_shareWithGroup 46 = .ok (.invokevirtual 104, 3) := by decide +kernel
theorem dX3_shareWithGroup_49 : decode cX3_shareWithGroup 49 = .ok (.ireturn, 1) := by decide +kernel
set_option maxRecDepth 20000 in
theorem ggX3_setBroken_X3_isNoFolder : GoodIn wsX3_setBroken wsX3_isNoFolder := goodIn_r _ [7, 8, 9, 10, 6, 11, 17, 18, 19, 20, 21, 22, 23, 24, 25, 26, 27, 28, 29, 30, 31, 32, 33, 34, 35] (by decide +kernel) (by decide +kernel)
set_option maxRecDepth 20000 in
theorem gX3_setBroken_X3_isNoFolder : GoodIn wsX3_setBroken (wsV RX3 97 RX3 yX3_isNoFolder wsX3_isNoFolder) := goodIn_app (goodIn_of _ (by decide +kernel)) ggX3_setBroken_X3_isNoFolder
set_option maxRecDepth 20000 in
theorem ggX3_setBroken_X3_fails : GoodIn wsX3_setBroken wsX3_fails := goodIn_r _ [15, 16, 17, 18, 19, 20, 21, 22, 23, 24, 25, 26, 27, 28, 29, 30, 31, 32, 33, 34, 35] (by decide +kernel) (by decide +kernel)
set_option maxRecDepth 20000 in
theorem gX3_setBroken_X3_fails : GoodIn wsX3_setBroken (wsV RX3 67 RX3 yX3_fails wsX3_fails) := goodIn_app (goodIn_of _ (by decide +kernel)) ggX3_setBroken_X3_fails
theorem dX3_setBroken_0 : decode cX3_setBroken 0 = .ok (.aload_n 0, 1) := by decide +kernel
theorem dX3_setBroken_1 : decode cX3_setBroken 1 = .ok (.aload_n 0, 1) := by decide +kernel
theorem dX3_setBroken_2 : decode cX3_setBroken 2 = .ok (.iload_n 1, 1) := by decide +kernel
theorem dX3_setBroken_3 : decode cX3_setBroken 3 = .ok (.invokevirtual 97, 3) := by decide +kernel
theorem dX3_setBroken_6 : decode cX3_setBroken 6 = .ok (.ifCond .eq 7, 3) := by decide +kernel
theorem dX3_setBroken_9 : decode cX3_setBroken 9 = .ok (.iconst 1, 1) := by decide +kernel
theorem dX3_setBroken_10 : decode cX3_setBroken 10 = .ok (.goto 17, 3) := by decide +kernel
theorem dX3_setBroken_13 : decode cX3_setBroken 13 = .ok (.aload_n 0, 1) := by decide +kernel
theorem dX3_setBroken_14 : decode cX3_setBroken 14 = .ok (.getfield 39, 3) := by decide +kernel
theorem dX3_setBroken_17 : decode cX3_setBroken 17 = .ok (.iload_n 1, 1) := by decide +kernel
theorem dX3_setBroken_18 : decode cX3_setBroken 18 = .ok (.baload, 1) := by decide +kernel
theorem dX3_setBroken_19 : decode cX3_setBroken 19 = .ok (.ifCond .eq 7, 3) := by decide +kernel
theorem dX3_setBroken_22 : decode cX3_setBroken 22 = .ok (.iconst 2, 1) := by decide +kernel
theorem dX3_setBroken_23 : decode cX3_setBroken 23 = .ok (.goto 4, 3) := by decide +kernel
theorem dX3_setBroken_26 : decode cX3_setBroken 26 = .ok (.iconst 0, 1) := by decide +kernel
theorem dX3_setBroken_27 : decode cX3_setBroken 27 = .ok (.invokevirtual 67, 3) := by decide +kernel
theorem dX3_setBroken_30 : decode cX3_setBroken 30 = .ok (.ifCond .eq 5, 3) := by decide +kernel
theorem dX3_setBroken_33 : decode cX3_setBroken 33 = .ok (.iconst 0, 1) := by decide +kernel
theorem dX3_setBroken_34 : decode cX3_setBroken 34 = .ok (.ireturn, 1) := by decide +kernel
theorem dX3_setBroken_35 : decode cX3_setBroken 35 = .ok (.aload_n 0, 1) := by decide +kernel
theorem dX3_setBroken_36 : decode cX3_setBroken 36 = .ok (.getfield 36, 3) := by decide +kernel
theorem dX3_setBroken_39 : decode cX3_setBroken 39 = .ok (.iload_n 1, 1) := by decide +kernel
theorem dX3_setBroken_40 : decode cX3_setBroken 40 = .ok (.baload, 1) := by decide +kernel
theorem dX3_setBroken_41 : decode cX3_setBroken 41 = .ok (.istore_n 3, 1) := by decide +kernel
theorem dX3_setBroken_42 : decode cX3_setBroken 42 = .ok (.aload_n 0, 1) := by decide +kernel
theorem dX3_setBroken_43 : decode cX3_setBroken 43 = .ok (.getfield 36, 3) := by decide +kernel
theorem dX3_setBroken_46 : decode cX3_setBroken 46 = .ok (.iload_n 1, 1) := by decide +kernel
theorem dX3_setBroken_47 : decode cX3_setBroken 47 = .ok (.iload_n 2, 1) := by decide +kernel
theorem dX3_setBroken_48 : decode cX3_setBroken 48 = .ok (.bastore, 1) := by decide +kernel
theorem dX3_setBroken_49 : decode cX3_setBroken 49 = .ok (.iload_n 3, 1) := by decide +kernel
theorem dX3_setBroken_50 : decode cX3_setBroken 50 = .ok (.ireturn, 1) := by decide +kernel
set_option maxRecDepth 20000 in
theorem ggX3_owner_X3_isNoFolder : GoodIn wsX3_owner wsX3_isNoFolder := goodIn_r _ [6, 7, 8, 9, 5, 10, 16, 17, 18, 19, 20, 21, 22, 23, 24, 25, 26, 27, 28, 29, 30, 31, 32, 33, 34] (by decide +kernel) (by decide +kernel)
set_option maxRecDepth 20000 in
theorem gX3_owner_X3_isNoFolder : GoodIn wsX3_owner (wsV RX3 97 RX3 yX3_isNoFolder wsX3_isNoFolder) := goodIn_app (goodIn_of _ (by decide +kernel)) ggX3_owner_X3_isNoFolder
set_option maxRecDepth 20000 in
theorem ggX3_owner_X3_fails : GoodIn wsX3_owner wsX3_fails := goodIn_r _ [14, 15, 16, 17, 18, 19, 20, 21, 22, 23, 24, 25, 26, 27, 28, 29, 30, 31, 32, 33, 34] (by decide +kernel) (by decide +kernel)
set_option maxRecDepth 20000 in
theorem gX3_owner_X3_fails : GoodIn wsX3_owner (wsV RX3 67 RX3 yX3_fails wsX3_fails) := goodIn_app (goodIn_of _ (by decide +kernel)) ggX3_owner_X3_fails
theorem dX3_owner_0 : decode cX3_owner 0 = .ok (.aload_n 0, 1) := by decide +kernel
theorem dX3_owner_1 : decode cX3_owner 1 = .ok (.aload_n 0, 1) := by decide +kernel
theorem dX3_owner_2 : decode cX3_owner 2 = .ok (.iload_n 1, 1) := by decide +kernel
theorem dX3_owner_3 : decode cX3_owner 3 = .ok (.invokevirtual 97, 3) := by decide +kernel
theorem dX3_owner_6 : decode cX3_owner 6 = .ok (.ifCond .eq 7, 3) := by decide +kernel
theorem dX3_owner_9 : decode cX3_owner 9 = .ok (.iconst 1, 1) := by decide +kernel
theorem dX3_owner_10 : decode cX3_owner 10 = .ok (.goto 4, 3) := by decide +kernel
theorem dX3_owner_13 : decode cX3_owner 13 = .ok (.iconst 0, 1) := by decide +kernel
theorem dX3_owner_14 : decode cX3_owner 14 = .ok (.invokevirtual 67, 3) := by decide +kernel
theorem dX3_owner_17 : decode cX3_owner 17 = .ok (.ifCond .eq 7, 3) := by decide +kernel
theorem dX3_owner_20 : decode cX3_owner 20 = .ok (.iconst 0, 1) := by decide +kernel
theorem dX3_owner_21 : decode cX3_owner 21 = .ok (.goto 9, 3) := by decide +kernel
theorem dX3_owner_24 : decode cX3_owner 24 = .ok (.aload_n 0, 1) := by decide +kernel
theorem dX3_owner_25 : decode cX3_owner 25 = .ok (.getfield 30, 3) := by decide +kernel
theorem dX3_owner_28 : decode cX3_owner 28 = .ok (.iload_n 1, 1) := by decide +kernel
theorem dX3_owner_29 : decode cX3_owner 29 = .ok (.iaload, 1) := by decide +kernel
theorem dX3_owner_30 : decode cX3_owner 30 = .ok (.ireturn, 1) := by decide +kernel
set_option maxRecDepth 20000 in
theorem ggX3_rightOf_X3_isMember : GoodIn wsX3_rightOf wsX3_isMember := goodIn_ca (goodIn_r _ [13, 3, 14, 15, 16, 17, 12, 18, 19, 20, 21, 22, 23, 24, 25, 26, 27, 28, 29, 30, 31, 32, 33, 34, 35, 36, 37, 38, 39, 40, 41, 42] (by decide +kernel) (by decide +kernel)) (goodIn_sub (fun _ h => List.mem_cons_of_mem _ (List.mem_append_right _ h)) (by decide +kernel))
set_option maxRecDepth 20000 in
theorem gX3_rightOf_X3_isMember : GoodIn wsX3_rightOf (wsV RX3 94 RX3 yX3_isMember wsX3_isMember) := goodIn_app (goodIn_of _ (by decide +kernel)) ggX3_rightOf_X3_isMember
theorem dX3_rightOf_0 : decode cX3_rightOf 0 = .ok (.aload_n 0, 1) := by decide +kernel
theorem dX3_rightOf_1 : decode cX3_rightOf 1 = .ok (.getfield 13, 3) := by decide +kernel
theorem dX3_rightOf_4 : decode cX3_rightOf 4 = .ok (.iload_n 1, 1) := by decide +kernel
theorem dX3_rightOf_5 : decode cX3_rightOf 5 = .ok (.baload, 1) := by decide +kernel
theorem dX3_rightOf_6 : decode cX3_rightOf 6 = .ok (.ifCond .eq 5, 3) := by decide +kernel
theorem dX3_rightOf_9 : decode cX3_rightOf 9 = .ok (.iconst 0, 1) := by decide +kernel
theorem dX3_rightOf_10 : decode cX3_rightOf 10 = .ok (.ireturn, 1) := by decide +kernel
theorem dX3_rightOf_11 : decode cX3_rightOf 11 = .ok (.aload_n 0, 1) := by decide +kernel
theorem dX3_rightOf_12 : decode cX3_rightOf 12 = .ok (.getfield 30, 3) := by decide +kernel
theorem dX3_rightOf_15 : decode cX3_rightOf 15 = .ok (.iload_n 2, 1) := by decide +kernel
theorem dX3_rightOf_16 : decode cX3_rightOf 16 = .ok (.iaload, 1) := by decide +kernel
theorem dX3_rightOf_17 : decode cX3_rightOf 17 = .ok (.iload_n 1, 1) := by decide +kernel
theorem dX3_rightOf_18 : decode cX3_rightOf 18 = .ok (.if_icmp .ne 5, 3) := by decide +kernel
theorem dX3_rightOf_21 : decode cX3_rightOf 21 = .ok (.iconst 3, 1) := by decide +kernel
theorem dX3_rightOf_22 : decode cX3_rightOf 22 = .ok (.ireturn, 1) := by decide +kernel
theorem dX3_rightOf_23 : decode cX3_rightOf 23 = .ok (.iconst 0, 1) := by decide +kernel
theorem dX3_rightOf_24 : decode cX3_rightOf 24 = .ok (.istore_n 3, 1) := by decide +kernel
theorem dX3_rightOf_25 : decode cX3_rightOf 25 = .ok (.iload_n 3, 1) := by decide +kernel
theorem dX3_rightOf_26 : decode cX3_rightOf 26 = .ok (.aload_n 0, 1) := by decide +kernel
theorem dX3_rightOf_27 : decode cX3_rightOf 27 = .ok (.getfield 61, 3) := by decide +kernel
theorem dX3_rightOf_30 : decode cX3_rightOf 30 = .ok (.if_icmp .ge 21, 3) := by decide +kernel
theorem dX3_rightOf_33 : decode cX3_rightOf 33 = .ok (.aload_n 0, 1) := by decide +kernel
theorem dX3_rightOf_34 : decode cX3_rightOf 34 = .ok (.getfield 27, 3) := by decide +kernel
theorem dX3_rightOf_37 : decode cX3_rightOf 37 = .ok (.iload_n 3, 1) := by decide +kernel
theorem dX3_rightOf_38 : decode cX3_rightOf 38 = .ok (.aload_n 0, 1) := by decide +kernel
theorem dX3_rightOf_39 : decode cX3_rightOf 39 = .ok (.iload_n 1, 1) := by decide +kernel
theorem dX3_rightOf_40 : decode cX3_rightOf 40 = .ok (.iload_n 3, 1) := by decide +kernel
theorem dX3_rightOf_41 : decode cX3_rightOf 41 = .ok (.invokevirtual 94, 3) := by decide +kernel
theorem dX3_rightOf_44 : decode cX3_rightOf 44 = .ok (.bastore, 1) := by decide +kernel
theorem dX3_rightOf_45 : decode cX3_rightOf 45 = .ok (.iinc 3 1, 3) := by decide +kernel
theorem dX3_rightOf_48 : decode cX3_rightOf 48 = .ok (.goto (-23), 3) := by decide +kernel
theorem dX3_rightOf_51 : decode cX3_rightOf 51 = .ok (.iconst 0, 1) := by decide +kernel
theorem dX3_rightOf_52 : decode cX3_rightOf 52 = .ok (.istore_n 3, 1) := by decide +kernel
theorem dX3_rightOf_53 : decode cX3_rightOf 53 = .ok (.iload_n 2, 1) := by decide +kernel
theorem dX3_rightOf_54 : decode cX3_rightOf 54 = .ok (.istore 4, 2) := by decide +kernel
theorem dX3_rightOf_56 : decode cX3_rightOf 56 = .ok (.iload 4, 2) := by decide +kernel
theorem dX3_rightOf_58 : decode cX3_rightOf 58 = .ok (.ifCond .lt 117, 3) := by decide +kernel
theorem dX3_rightOf_61 : decode cX3_rightOf 61 = .ok (.aload_n 0, 1) := by decide +kernel
theorem dX3_rightOf_62 : decode cX3_rightOf 62 = .ok (.getfield 42, 3) := by decide +kernel
theorem dX3_rightOf_65 : decode cX3_rightOf 65 = .ok (.bipush 10, 2) := by decide +kernel
theorem dX3_rightOf_67 : decode cX3_rightOf 67 = .ok (.iload 4, 2) := by decide +kernel
theorem dX3_rightOf_69 : decode cX3_rightOf 69 = .ok (.imul, 1) := by decide +kernel
theorem dX3_rightOf_70 : decode cX3_rightOf 70 = .ok (.iload_n 1, 1) := by decide +kernel
theorem dX3_rightOf_71 : decode cX3_rightOf 71 = .ok (.iadd, 1) := by decide +kernel
theorem dX3_rightOf_72 : decode cX3_rightOf 72 = .ok (.iaload, 1) := by decide +kernel
theorem dX3_rightOf_73 : decode cX3_rightOf 73 = .ok (.istore 5, 2) := by decide +kernel
theorem dX3_rightOf_75 : decode cX3_rightOf 75 = .ok (.iconst 0, 1) := by decide +kernel
theorem dX3_rightOf_76 : decode cX3_rightOf 76 = .ok (.istore 6, 2) := by decide +kernel
theorem dX3_rightOf_78 : decode cX3_rightOf 78 = .ok (.iload 6, 2) := by decide +kernel
theorem dX3_rightOf_80 : decode cX3_rightOf 80 = .ok (.aload_n 0, 1) := by decide +kernel
theorem dX3_rightOf_81 : decode cX3_rightOf 81 = .ok (.getfield 61, 3) := by decide +kernel
theorem dX3_rightOf_84 : decode cX3_rightOf 84 = .ok (.if_icmp .ge 52, 3) := by decide +kernel
theorem dX3_rightOf_87 : decode cX3_rightOf 87 = .ok (.aload_n 0, 1) := by decide +kernel
theorem dX3_rightOf_88 : decode cX3_rightOf 88 = .ok (.getfield 27, 3) := by decide +kernel
theorem dX3_rightOf_91 : decode cX3_rightOf 91 = .ok (.iload 6, 2) := by decide +kernel
theorem dX3_rightOf_93 : decode cX3_rightOf 93 = .ok (.baload, 1) := by decide +kernel
theorem dX3_rightOf_94 : decode cX3_rightOf 94 = .ok (.ifCond .eq 36, 3) := by decide +kernel
theorem dX3_rightOf_97 : decode cX3_rightOf 97 = .ok (.aload_n 0, 1) := by decide +kernel
theorem dX3_rightOf_98 : decode cX3_rightOf 98 = .ok (.getfield 45, 3) := by decide +kernel
theorem dX3_rightOf_101 : decode cX3_rightOf 101 = .ok (.bipush 6, 2) := by decide +kernel
theorem dX3_rightOf_103 : decode cX3_rightOf 103 = .ok (.iload 4, 2) := by decide +kernel
theorem dX3_rightOf_105 : decode cX3_rightOf 105 = .ok (.imul, 1) := by decide +kernel
theorem dX3_rightOf_106 : decode cX3_rightOf 106 = .ok (.iload 6, 2) := by decide +kernel
theorem dX3_rightOf_108 : decode cX3_rightOf 108 = .ok (.iadd, 1) := by decide +kernel
theorem dX3_rightOf_109 : decode cX3_rightOf 109 = .ok (.iaload, 1) := by decide +kernel
theorem dX3_rightOf_110 : decode cX3_rightOf 110 = .ok (.iload 5, 2) := by decide +kernel
theorem dX3_rightOf_112 : decode cX3_rightOf 112 = .ok (.if_icmp .le 18, 3) := by decide +kernel
theorem dX3_rightOf_115 : decode cX3_rightOf 115 = .ok (.aload_n 0, 1) := by decide +kernel
theorem dX3_rightOf_116 : decode cX3_rightOf 116 = .ok (.getfield 45, 3) := by decide +kernel
theorem dX3_rightOf_119 : decode cX3_rightOf 119 = .ok (.bipush 6, 2) := by decide +kernel
theorem dX3_rightOf_121 : decode cX3_rightOf 121 = .ok (.iload 4, 2) := by decide +kernel
theorem dX3_rightOf_123 : decode cX3_rightOf 123 = .ok (.imul, 1) := by decide +kernel
theorem dX3_rightOf_124 : decode cX3_rightOf 124 = .ok (.iload 6, 2) := by decide +kernel
theorem dX3_rightOf_126 : decode cX3_rightOf 126 = .ok (.iadd, 1) := by decide +kernel
theorem dX3_rightOf_127 : decode cX3_rightOf 127 = .ok (.iaload, 1) := by decide +kernel
theorem dX3_rightOf_128 : decode cX3_rightOf 128 = .ok (.istore 5, 2) := by decide +kernel
theorem dX3_rightOf_130 : decode cX3_rightOf 130 = .ok (.iinc 6 1, 3) := by decide +kernel
theorem dX3_rightOf_133 : decode cX3_rightOf 133 = .ok (.goto (-55), 3) := by decide +kernel
theorem dX3_rightOf_136 : decode cX3_rightOf 136 = .ok (.iload 5, 2) := by decide +kernel
theorem dX3_rightOf_138 : decode cX3_rightOf 138 = .ok (.iload_n 3, 1) := by decide +kernel
theorem dX3_rightOf_139 : decode cX3_rightOf 139 = .ok (.if_icmp .le 8, 3) := by decide +kernel
theorem dX3_rightOf_142 : decode cX3_rightOf 142 = .ok (.iload 5, 2) := by decide +kernel
theorem dX3_rightOf_144 : decode cX3_rightOf 144 = .ok (.goto 4, 3) := by decide +kernel
theorem dX3_rightOf_147 : decode cX3_rightOf 147 = .ok (.iload_n 3, 1) := by decide +kernel
theorem dX3_rightOf_148 : decode cX3_rightOf 148 = .ok (.istore_n 3, 1) := by decide +kernel
theorem dX3_rightOf_149 : decode cX3_rightOf 149 = .ok (.aload_n 0, 1) := by decide +kernel
theorem dX3_rightOf_150 : decode cX3_rightOf 150 = .ok (.getfield 36, 3) := by decide +kernel
theorem dX3_rightOf_153 : decode cX3_rightOf 153 = .ok (.iload 4, 2) := by decide +kernel
theorem dX3_rightOf_155 : decode cX3_rightOf 155 = .ok (.baload, 1) := by decide +kernel
theorem dX3_rightOf_156 : decode cX3_rightOf 156 = .ok (.ifCond .eq 7, 3) := by decide +kernel
theorem dX3_rightOf_159 : decode cX3_rightOf 159 = .ok (.iconst (-1), 1) := by decide +kernel
theorem dX3_rightOf_160 : decode cX3_rightOf 160 = .ok (.goto 10, 3) := by decide +kernel
theorem dX3_rightOf_163 : decode cX3_rightOf 163 = .ok (.aload_n 0, 1) := by decide +kernel
theorem dX3_rightOf_164 : decode cX3_rightOf 164 = .ok (.getfield 33, 3) := by decide +kernel
theorem dX3_rightOf_167 : decode cX3_rightOf 167 = .ok (.iload 4, 2) := by decide +kernel
theorem dX3_rightOf_169 : decode cX3_rightOf 169 = .ok (.iaload, 1) := by decide +kernel
theorem dX3_rightOf_170 : decode cX3_rightOf 170 = .ok (.istore 4, 2) := by decide +kernel
theorem dX3_rightOf_172 : decode cX3_rightOf 172 = .ok (.goto (-116), 3) := by decide +kernel
theorem dX3_rightOf_175 : decode cX3_rightOf 175 = .ok (.iload_n 3, 1) := by decide +kernel
theorem dX3_rightOf_176 : decode cX3_rightOf 176 = .ok (.ireturn, 1) := by decide +kernel
set_option maxRecDepth 20000 in
theorem ggX3_asked_X3_isNoAccount : GoodIn wsX3_asked wsX3_isNoAccount := goodIn_r _ [5, 6, 7, 8, 4, 9, 46, 47, 48, 49, 50, 51, 52, 53, 54, 55, 56, 57, 58, 59, 60, 61, 62, 63, 64] (by decide +kernel) (by decide +kernel)
set_option maxRecDepth 20000 in
theorem gX3_asked_X3_isNoAccount : GoodIn wsX3_asked (wsV RX3 71 RX3 yX3_isNoAccount wsX3_isNoAccount) := goodIn_app (goodIn_of _ (by decide +kernel)) ggX3_asked_X3_isNoAccount
set_option maxRecDepth 20000 in
theorem ggX3_asked_X3_isNoFolder : GoodIn wsX3_asked wsX3_isNoFolder := goodIn_r _ [13, 14, 7, 8, 4, 9, 46, 47, 48, 49, 50, 51, 52, 53, 54, 55, 56, 57, 58, 59, 60, 61, 62, 63, 64] (by decide +kernel) (by decide +kernel)
set_option maxRecDepth 20000 in
theorem gX3_asked_X3_isNoFolder : GoodIn wsX3_asked (wsV RX3 97 RX3 yX3_isNoFolder wsX3_isNoFolder) := goodIn_app (goodIn_of _ (by decide +kernel)) ggX3_asked_X3_isNoFolder
set_option maxRecDepth 20000 in
theorem ggX3_asked_X3_fails : GoodIn wsX3_asked wsX3_fails := goodIn_r _ [18, 19, 46, 47, 48, 49, 50, 51, 52, 53, 54, 55, 56, 57, 58, 59, 60, 61, 62, 63, 64] (by decide +kernel) (by decide +kernel)
set_option maxRecDepth 20000 in
theorem gX3_asked_X3_fails : GoodIn wsX3_asked (wsV RX3 67 RX3 yX3_fails wsX3_fails) := goodIn_app (goodIn_of _ (by decide +kernel)) ggX3_asked_X3_fails
set_option maxRecDepth 20000 in
theorem ggX3_asked_X3_rightOf : GoodIn wsX3_asked wsX3_rightOf := goodIn_ca (goodIn_r _ [23, 24, 25, 26, 27, 28, 29, 30, 31, 32, 33, 34, 4, 35, 36, 37, 38, 39, 40, 41, 42, 43, 44, 45, 46, 47, 48, 49, 50, 51, 52, 53, 54, 55, 56, 57, 58, 59, 60, 61, 62, 63, 64] (by decide +kernel) (by decide +kernel)) (goodIn_sub (fun _ h => List.mem_cons_of_mem _ (List.mem_append_right _ h)) (by decide +kernel))
set_option maxRecDepth 20000 in
theorem gX3_asked_X3_rightOf : GoodIn wsX3_asked (wsV RX3 107 RX3 yX3_rightOf wsX3_rightOf) := goodIn_app (goodIn_of _ (by decide +kernel)) ggX3_asked_X3_rightOf
theorem dX3_asked_0 : decode cX3_asked 0 = .ok (.aload_n 0, 1) := by decide +kernel
theorem dX3_asked_1 : decode cX3_asked 1 = .ok (.aload_n 0, 1) := by decide +kernel
theorem dX3_asked_2 : decode cX3_asked 2 = .ok (.iload_n 1, 1) := by decide +kernel
theorem dX3_asked_3 : decode cX3_asked 3 = .ok (.invokevirtual 71, 3) := by decide +kernel
theorem dX3_asked_6 : decode cX3_asked 6 = .ok (.ifCond .ne 11, 3) := by decide +kernel
theorem dX3_asked_9 : decode cX3_asked 9 = .ok (.aload_n 0, 1) := by decide +kernel
theorem dX3_asked_10 : decode cX3_asked 10 = .ok (.iload_n 2, 1) := by decide +kernel
theorem dX3_asked_11 : decode cX3_asked 11 = .ok (.invokevirtual 97, 3) := by decide +kernel
theorem dX3_asked_14 : decode cX3_asked 14 = .ok (.ifCond .eq 7, 3) := by decide +kernel
theorem dX3_asked_17 : decode cX3_asked 17 = .ok (.iconst 1, 1) := by decide +kernel
theorem dX3_asked_18 : decode cX3_asked 18 = .ok (.goto 4, 3) := by decide +kernel
theorem dX3_asked_21 : decode cX3_asked 21 = .ok (.iconst 0, 1) := by decide +kernel
theorem dX3_asked_22 : decode cX3_asked 22 = .ok (.invokevirtual 67, 3) := by decide +kernel
theorem dX3_asked_25 : decode cX3_asked 25 = .ok (.ifCond .eq 7, 3) := by decide +kernel
theorem dX3_asked_28 : decode cX3_asked 28 = .ok (.iconst 0, 1) := by decide +kernel
theorem dX3_asked_29 : decode cX3_asked 29 = .ok (.goto 9, 3) := by decide +kernel
theorem dX3_asked_32 : decode cX3_asked 32 = .ok (.aload_n 0, 1) := by decide +kernel
theorem dX3_asked_33 : decode cX3_asked 33 = .ok (.iload_n 1, 1) := by decide +kernel
theorem dX3_asked_34 : decode cX3_asked 34 = .ok (.iload_n 2, 1) := by decide +kernel
theorem dX3_asked_35 : decode cX3_asked 35 = .ok (.invokevirtual 107, 3) := by decide +kernel
theorem dX3_asked_38 : decode cX3_asked 38 = .ok (.ireturn, 1) := by decide +kernel
set_option maxRecDepth 20000 in
theorem ggX3_right_X3_asked : GoodIn wsX3_right wsX3_asked := goodIn_ca (goodIn_r _ [5, 6, 7, 8, 4, 9, 10, 11, 12, 13, 14, 15, 16, 17, 18, 19, 20, 21, 22, 23, 24, 25, 26, 27, 28, 29, 30, 31, 32, 33, 34, 35, 36, 37, 38, 39, 40, 41, 42, 43, 44, 45, 46, 47, 48, 49, 50, 51, 52, 53, 54, 55, 56, 57, 58, 59, 60, 61, 62, 63, 64, 65, 66, 67, 68] (by decide +kernel) (by decide +kernel)) (goodIn_sub (fun _ h => List.mem_cons_of_mem _ (List.mem_append_right _ h)) (by decide +kernel))
set_option maxRecDepth 20000 in
theorem gX3_right_X3_asked : GoodIn wsX3_right (wsV RX3 111 RX3 yX3_asked wsX3_asked) := goodIn_app (goodIn_of _ (by decide +kernel)) ggX3_right_X3_asked
theorem dX3_right_0 : decode cX3_right 0 = .ok (.aload_n 0, 1) := by decide +kernel
theorem dX3_right_1 : decode cX3_right 1 = .ok (.iload_n 1, 1) := by decide +kernel
theorem dX3_right_2 : decode cX3_right 2 = .ok (.iload_n 2, 1) := by decide +kernel
theorem dX3_right_3 : decode cX3_right 3 = .ok (.invokevirtual 111, 3) := by decide +kernel
theorem dX3_right_6 : decode cX3_right 6 = .ok (.ireturn, 1) := by decide +kernel
set_option maxRecDepth 20000 in
theorem ggX3_rightByWalking_X3_asked : GoodIn wsX3_rightByWalking wsX3_asked := goodIn_ca (goodIn_r _ [5, 6, 7, 8, 4, 9, 10, 11, 12, 13, 14, 15, 16, 17, 18, 19, 20, 21, 22, 23, 24, 25, 26, 27, 28, 29, 30, 31, 32, 33, 34, 35, 36, 37, 38, 39, 40, 41, 42, 43, 44, 45, 46, 47, 48, 49, 50, 51, 52, 53, 54, 55, 56, 57, 58, 59, 60, 61, 62, 63, 64, 65, 66, 67, 68] (by decide +kernel) (by decide +kernel)) (goodIn_sub (fun _ h => List.mem_cons_of_mem _ (List.mem_append_right _ h)) (by decide +kernel))
set_option maxRecDepth 20000 in
theorem gX3_rightByWalking_X3_asked : GoodIn wsX3_rightByWalking (wsV RX3 111 RX3 yX3_asked wsX3_asked) := goodIn_app (goodIn_of _ (by decide +kernel)) ggX3_rightByWalking_X3_asked
theorem dX3_rightByWalking_0 : decode cX3_rightByWalking 0 = .ok (.aload_n 0, 1) := by decide +kernel
theorem dX3_rightByWalking_1 : decode cX3_rightByWalking 1 = .ok (.iload_n 1, 1) := by decide +kernel
theorem dX3_rightByWalking_2 : decode cX3_rightByWalking 2 = .ok (.iload_n 2, 1) := by decide +kernel
theorem dX3_rightByWalking_3 : decode cX3_rightByWalking 3 = .ok (.invokevirtual 111, 3) := by decide +kernel
theorem dX3_rightByWalking_6 : decode cX3_rightByWalking 6 = .ok (.ireturn, 1) := by decide +kernel
set_option maxRecDepth 20000 in
theorem ggX3_holders_X3_isNoFolder : GoodIn wsX3_holders wsX3_isNoFolder := goodIn_r _ [6, 7, 8, 9, 5, 10, 42, 43, 44, 45, 46, 47, 48, 49, 50, 51, 52, 53, 54, 55, 56, 57, 58, 59, 60] (by decide +kernel) (by decide +kernel)
set_option maxRecDepth 20000 in
theorem gX3_holders_X3_isNoFolder : GoodIn wsX3_holders (wsV RX3 97 RX3 yX3_isNoFolder wsX3_isNoFolder) := goodIn_app (goodIn_of _ (by decide +kernel)) ggX3_holders_X3_isNoFolder
set_option maxRecDepth 20000 in
theorem ggX3_holders_X3_in : GoodIn wsX3_holders wsX3_in := goodIn_r _ [10] (by decide +kernel) (by decide +kernel)
set_option maxRecDepth 20000 in
theorem gX3_holders_X3_in : GoodIn wsX3_holders (va_wsS RX3 57 yX3_in wsX3_in) := goodIn_app (goodIn_of _ (by decide +kernel)) ggX3_holders_X3_in
set_option maxRecDepth 20000 in
theorem ggX3_holders_X3_fails : GoodIn wsX3_holders wsX3_fails := goodIn_r _ [14, 15, 42, 43, 44, 45, 46, 47, 48, 49, 50, 51, 52, 53, 54, 55, 56, 57, 58, 59, 60] (by decide +kernel) (by decide +kernel)
set_option maxRecDepth 20000 in
theorem gX3_holders_X3_fails : GoodIn wsX3_holders (wsV RX3 67 RX3 yX3_fails wsX3_fails) := goodIn_app (goodIn_of _ (by decide +kernel)) ggX3_holders_X3_fails
set_option maxRecDepth 20000 in
theorem ggX3_holders_X3_rightOf : GoodIn wsX3_holders wsX3_rightOf := goodIn_ca (goodIn_r _ [19, 20, 21, 22, 23, 24, 25, 26, 27, 28, 29, 30, 5, 31, 32, 33, 34, 35, 36, 37, 38, 39, 40, 41, 42, 43, 44, 45, 46, 47, 48, 49, 50, 51, 52, 53, 54, 55, 56, 57, 58, 59, 60] (by decide +kernel) (by decide +kernel)) (goodIn_sub (fun _ h => List.mem_cons_of_mem _ (List.mem_append_right _ h)) (by decide +kernel))
set_option maxRecDepth 20000 in
theorem gX3_holders_X3_rightOf : GoodIn wsX3_holders (wsV RX3 107 RX3 yX3_rightOf wsX3_rightOf) := goodIn_app (goodIn_of _ (by decide +kernel)) ggX3_holders_X3_rightOf
theorem dX3_holders_0 : decode cX3_holders 0 = .ok (.aload_n 0, 1) := by decide +kernel
theorem dX3_holders_1 : decode cX3_holders 1 = .ok (.aload_n 0, 1) := by decide +kernel
theorem dX3_holders_2 : decode cX3_holders 2 = .ok (.iload_n 1, 1) := by decide +kernel
theorem dX3_holders_3 : decode cX3_holders 3 = .ok (.invokevirtual 97, 3) := by decide +kernel
theorem dX3_holders_6 : decode cX3_holders 6 = .ok (.ifCond .eq 7, 3) := by decide +kernel
theorem dX3_holders_9 : decode cX3_holders 9 = .ok (.iconst 1, 1) := by decide +kernel
theorem dX3_holders_10 : decode cX3_holders 10 = .ok (.goto 17, 3) := by decide +kernel
theorem dX3_holders_13 : decode cX3_holders 13 = .ok (.iload_n 2, 1) := by decide +kernel
theorem dX3_holders_14 : decode cX3_holders 14 = .ok (.iconst 1, 1) := by decide +kernel
theorem dX3_holders_15 : decode cX3_holders 15 = .ok (.iconst 3, 1) := by decide +kernel
theorem dX3_holders_16 : decode cX3_holders 16 = .ok (.invokestatic 57, 3) := by decide +kernel
theorem dX3_holders_19 : decode cX3_holders 19 = .ok (.ifCond .eq 7, 3) := by decide +kernel
theorem dX3_holders_22 : decode cX3_holders 22 = .ok (.iconst 0, 1) := by decide +kernel
theorem dX3_holders_23 : decode cX3_holders 23 = .ok (.goto 4, 3) := by decide +kernel
theorem dX3_holders_26 : decode cX3_holders 26 = .ok (.iconst 2, 1) := by decide +kernel
theorem dX3_holders_27 : decode cX3_holders 27 = .ok (.invokevirtual 67, 3) := by decide +kernel
theorem dX3_holders_30 : decode cX3_holders 30 = .ok (.ifCond .eq 5, 3) := by decide +kernel
theorem dX3_holders_33 : decode cX3_holders 33 = .ok (.iconst 0, 1) := by decide +kernel
theorem dX3_holders_34 : decode cX3_holders 34 = .ok (.ireturn, 1) := by decide +kernel
theorem dX3_holders_35 : decode cX3_holders 35 = .ok (.iconst 0, 1) := by decide +kernel
theorem dX3_holders_36 : decode cX3_holders 36 = .ok (.istore_n 3, 1) := by decide +kernel
theorem dX3_holders_37 : decode cX3_holders 37 = .ok (.iconst 0, 1) := by decide +kernel
theorem dX3_holders_38 : decode cX3_holders 38 = .ok (.istore 4, 2) := by decide +kernel
theorem dX3_holders_40 : decode cX3_holders 40 = .ok (.iload 4, 2) := by decide +kernel
theorem dX3_holders_42 : decode cX3_holders 42 = .ok (.aload_n 0, 1) := by decide +kernel
theorem dX3_holders_43 : decode cX3_holders 43 = .ok (.getfield 7, 3) := by decide +kernel
theorem dX3_holders_46 : decode cX3_holders 46 = .ok (.if_icmp .ge 28, 3) := by decide +kernel
theorem dX3_holders_49 : decode cX3_holders 49 = .ok (.iload_n 3, 1) := by decide +kernel
theorem dX3_holders_50 : decode cX3_holders 50 = .ok (.aload_n 0, 1) := by decide +kernel
theorem dX3_holders_51 : decode cX3_holders 51 = .ok (.iload 4, 2) := by decide +kernel
theorem dX3_holders_53 : decode cX3_holders 53 = .ok (.iload_n 1, 1) := by decide +kernel
theorem dX3_holders_54 : decode cX3_holders 54 = .ok (.invokevirtual 107, 3) := by decide +kernel
theorem dX3_holders_57 : decode cX3_holders 57 = .ok (.iload_n 2, 1) := by decide +kernel
theorem dX3_holders_58 : decode cX3_holders 58 = .ok (.if_icmp .lt 7, 3) := by decide +kernel
theorem dX3_holders_61 : decode cX3_holders 61 = .ok (.iconst 1, 1) := by decide +kernel
theorem dX3_holders_62 : decode cX3_holders 62 = .ok (.goto 4, 3) := by decide +kernel
theorem dX3_holders_65 : decode cX3_holders 65 = .ok (.iconst 0, 1) := by decide +kernel
theorem dX3_holders_66 : decode cX3_holders 66 = .ok (.iadd, 1) := by decide +kernel
theorem dX3_holders_67 : decode cX3_holders 67 = .ok (.istore_n 3, 1) := by decide +kernel
theorem dX3_holders_68 : decode cX3_holders 68 = .ok (.iinc 4 1, 3) := by decide +kernel
theorem dX3_holders_71 : decode cX3_holders 71 = .ok (.goto (-31), 3) := by decide +kernel
theorem dX3_holders_74 : decode cX3_holders 74 = .ok (.iload_n 3, 1) := by decide +kernel
theorem dX3_holders_75 : decode cX3_holders 75 = .ok (.ireturn, 1) := by decide +kernel
set_option maxRecDepth 20000 in
theorem ggX3_addRoom_X3_isNoGroup : GoodIn wsX3_addRoom wsX3_isNoGroup := goodIn_r _ [7, 8, 9, 10, 6, 11, 17, 18, 19, 20, 21, 22, 23, 24, 25, 26, 27, 28, 29, 30, 31, 32, 33, 34, 35] (by decide +kernel) (by decide +kernel)
set_option maxRecDepth 20000 in
theorem gX3_addRoom_X3_isNoGroup : GoodIn wsX3_addRoom (wsV RX3 77 RX3 yX3_isNoGroup wsX3_isNoGroup) := goodIn_app (goodIn_of _ (by decide +kernel)) ggX3_addRoom_X3_isNoGroup
set_option maxRecDepth 20000 in
theorem ggX3_addRoom_X3_fails : GoodIn wsX3_addRoom wsX3_fails := goodIn_r _ [15, 16, 17, 18, 19, 20, 21, 22, 23, 24, 25, 26, 27, 28, 29, 30, 31, 32, 33, 34, 35] (by decide +kernel) (by decide +kernel)
set_option maxRecDepth 20000 in
theorem gX3_addRoom_X3_fails : GoodIn wsX3_addRoom (wsV RX3 67 RX3 yX3_fails wsX3_fails) := goodIn_app (goodIn_of _ (by decide +kernel)) ggX3_addRoom_X3_fails
theorem dX3_addRoom_0 : decode cX3_addRoom 0 = .ok (.aload_n 0, 1) := by decide +kernel
theorem dX3_addRoom_1 : decode cX3_addRoom 1 = .ok (.aload_n 0, 1) := by decide +kernel
theorem dX3_addRoom_2 : decode cX3_addRoom 2 = .ok (.iload_n 1, 1) := by decide +kernel
theorem dX3_addRoom_3 : decode cX3_addRoom 3 = .ok (.invokevirtual 77, 3) := by decide +kernel
theorem dX3_addRoom_6 : decode cX3_addRoom 6 = .ok (.ifCond .eq 7, 3) := by decide +kernel
theorem dX3_addRoom_9 : decode cX3_addRoom 9 = .ok (.iconst 1, 1) := by decide +kernel
theorem dX3_addRoom_10 : decode cX3_addRoom 10 = .ok (.goto 16, 3) := by decide +kernel
theorem dX3_addRoom_13 : decode cX3_addRoom 13 = .ok (.aload_n 0, 1) := by decide +kernel
theorem dX3_addRoom_14 : decode cX3_addRoom 14 = .ok (.getfield 114, 3) := by decide +kernel
theorem dX3_addRoom_17 : decode cX3_addRoom 17 = .ok (.iconst 4, 1) := by decide +kernel
theorem dX3_addRoom_18 : decode cX3_addRoom 18 = .ok (.if_icmp .ne 7, 3) := by decide +kernel
theorem dX3_addRoom_21 : decode cX3_addRoom 21 = .ok (.iconst 2, 1) := by decide +kernel
theorem dX3_addRoom_22 : decode cX3_addRoom 22 = .ok (.goto 4, 3) := by decide +kernel
theorem dX3_addRoom_25 : decode cX3_addRoom 25 = .ok (.iconst 0, 1) := by decide +kernel
theorem dX3_addRoom_26 : decode cX3_addRoom 26 = .ok (.invokevirtual 67, 3) := by decide +kernel
theorem dX3_addRoom_29 : decode cX3_addRoom 29 = .ok (.ifCond .eq 5, 3) := by decide +kernel
theorem dX3_addRoom_32 : decode cX3_addRoom 32 = .ok (.iconst 0, 1) := by decide +kernel
theorem dX3_addRoom_33 : decode cX3_addRoom 33 = .ok (.ireturn, 1) := by decide +kernel
theorem dX3_addRoom_34 : decode cX3_addRoom 34 = .ok (.aload_n 0, 1) := by decide +kernel
theorem dX3_addRoom_35 : decode cX3_addRoom 35 = .ok (.getfield 48, 3) := by decide +kernel
theorem dX3_addRoom_38 : decode cX3_addRoom 38 = .ok (.aload_n 0, 1) := by decide +kernel
theorem dX3_addRoom_39 : decode cX3_addRoom 39 = .ok (.getfield 114, 3) := by decide +kernel
theorem dX3_addRoom_42 : decode cX3_addRoom 42 = .ok (.iload_n 1, 1) := by decide +kernel
theorem dX3_addRoom_43 : decode cX3_addRoom 43 = .ok (.iastore, 1) := by decide +kernel
theorem dX3_addRoom_44 : decode cX3_addRoom 44 = .ok (.aload_n 0, 1) := by decide +kernel
theorem dX3_addRoom_45 : decode cX3_addRoom 45 = .ok (.dup, 1) := by decide +kernel
theorem dX3_addRoom_46 : decode cX3_addRoom 46 = .ok (.getfield 114, 3) := by decide +kernel
theorem dX3_addRoom_49 : decode cX3_addRoom 49 = .ok (.iconst 1, 1) := by decide +kernel
theorem dX3_addRoom_50 : decode cX3_addRoom 50 = .ok (.iadd, 1) := by decide +kernel
theorem dX3_addRoom_51 : decode cX3_addRoom 51 = .ok (.putfield 114, 3) := by decide +kernel
theorem dX3_addRoom_54 : decode cX3_addRoom 54 = .ok (.aload_n 0, 1) := by decide +kernel
theorem dX3_addRoom_55 : decode cX3_addRoom 55 = .ok (.getfield 114, 3) := by decide +kernel
theorem dX3_addRoom_58 : decode cX3_addRoom 58 = .ok (.iconst 1, 1) := by decide +kernel
theorem dX3_addRoom_59 : decode cX3_addRoom 59 = .ok (.isub, 1) := by decide +kernel
theorem dX3_addRoom_60 : decode cX3_addRoom 60 = .ok (.ireturn, 1) := by decide +kernel
set_option maxRecDepth 20000 in
theorem ggX3_isNoRoom_X3_in : GoodIn wsX3_isNoRoom wsX3_in := goodIn_r _ [5] (by decide +kernel) (by decide +kernel)
set_option maxRecDepth 20000 in
theorem gX3_isNoRoom_X3_in : GoodIn wsX3_isNoRoom (va_wsS RX3 57 yX3_in wsX3_in) := goodIn_app (goodIn_of _ (by decide +kernel)) ggX3_isNoRoom_X3_in
theorem dX3_isNoRoom_0 : decode cX3_isNoRoom 0 = .ok (.iload_n 1, 1) := by decide +kernel
theorem dX3_isNoRoom_1 : decode cX3_isNoRoom 1 = .ok (.iconst 0, 1) := by decide +kernel
theorem dX3_isNoRoom_2 : decode cX3_isNoRoom 2 = .ok (.aload_n 0, 1) := by decide +kernel
theorem dX3_isNoRoom_3 : decode cX3_isNoRoom 3 = .ok (.getfield 114, 3) := by decide +kernel
theorem dX3_isNoRoom_6 : decode cX3_isNoRoom 6 = .ok (.iconst 1, 1) := by decide +kernel
theorem dX3_isNoRoom_7 : decode cX3_isNoRoom 7 = .ok (.isub, 1) := by decide +kernel
theorem dX3_isNoRoom_8 : decode cX3_isNoRoom 8 = .ok (.invokestatic 57, 3) := by decide +kernel
theorem dX3_isNoRoom_11 : decode cX3_isNoRoom 11 = .ok (.ifCond .ne 7, 3) := by decide +kernel
theorem dX3_isNoRoom_14 : decode cX3_isNoRoom 14 = .ok (.iconst 1, 1) := by decide +kernel
theorem dX3_isNoRoom_15 : decode cX3_isNoRoom 15 = .ok (.goto 4, 3) := by decide +kernel
theorem dX3_isNoRoom_18 : decode cX3_isNoRoom 18 = .ok (.iconst 0, 1) := by decide +kernel
theorem dX3_isNoRoom_19 : decode cX3_isNoRoom 19 = .ok (.ireturn, 1) := by decide +kernel
set_option maxRecDepth 20000 in
theorem ggX3_inside_X3_isMember : GoodIn wsX3_inside wsX3_isMember := goodIn_ca (goodIn_r _ [8, 9, 10, 11, 12, 13, 7, 14, 15, 16, 17, 18, 19, 20, 21, 22, 23, 24, 25, 26, 27, 28, 29, 30, 31, 32, 33, 34, 35, 36, 37, 38] (by decide +kernel) (by decide +kernel)) (goodIn_sub (fun _ h => List.mem_cons_of_mem _ (List.mem_append_right _ h)) (by decide +kernel))
set_option maxRecDepth 20000 in
theorem gX3_inside_X3_isMember : GoodIn wsX3_inside (wsV RX3 94 RX3 yX3_isMember wsX3_isMember) := goodIn_app (goodIn_of _ (by decide +kernel)) ggX3_inside_X3_isMember
theorem dX3_inside_0 : decode cX3_inside 0 = .ok (.iconst 0, 1) := by decide +kernel
theorem dX3_inside_1 : decode cX3_inside 1 = .ok (.istore_n 2, 1) := by decide +kernel
theorem dX3_inside_2 : decode cX3_inside 2 = .ok (.iconst 0, 1) := by decide +kernel
theorem dX3_inside_3 : decode cX3_inside 3 = .ok (.istore_n 3, 1) := by decide +kernel
theorem dX3_inside_4 : decode cX3_inside 4 = .ok (.iload_n 3, 1) := by decide +kernel
theorem dX3_inside_5 : decode cX3_inside 5 = .ok (.aload_n 0, 1) := by decide +kernel
theorem dX3_inside_6 : decode cX3_inside 6 = .ok (.getfield 7, 3) := by decide +kernel
theorem dX3_inside_9 : decode cX3_inside 9 = .ok (.if_icmp .ge 40, 3) := by decide +kernel
theorem dX3_inside_12 : decode cX3_inside 12 = .ok (.iload_n 2, 1) := by decide +kernel
theorem dX3_inside_13 : decode cX3_inside 13 = .ok (.aload_n 0, 1) := by decide +kernel
theorem dX3_inside_14 : decode cX3_inside 14 = .ok (.getfield 13, 3) := by decide +kernel
theorem dX3_inside_17 : decode cX3_inside 17 = .ok (.iload_n 3, 1) := by decide +kernel
theorem dX3_inside_18 : decode cX3_inside 18 = .ok (.baload, 1) := by decide +kernel
theorem dX3_inside_19 : decode cX3_inside 19 = .ok (.ifCond .ne 21, 3) := by decide +kernel
theorem dX3_inside_22 : decode cX3_inside 22 = .ok (.aload_n 0, 1) := by decide +kernel
theorem dX3_inside_23 : decode cX3_inside 23 = .ok (.iload_n 3, 1) := by decide +kernel
theorem dX3_inside_24 : decode cX3_inside 24 = .ok (.aload_n 0, 1) := by decide +kernel
theorem dX3_inside_25 : decode cX3_inside 25 = .ok (.getfield 48, 3) := by decide +kernel
theorem dX3_inside_28 : decode cX3_inside 28 = .ok (.iload_n 1, 1) := by decide +kernel
theorem dX3_inside_29 : decode cX3_inside 29 = .ok (.iaload, 1) := by decide +kernel
theorem dX3_inside_30 : decode cX3_inside 30 = .ok (.invokevirtual 94, 3) := by decide +kernel
theorem dX3_inside_33 : decode cX3_inside 33 = .ok (.ifCond .eq 7, 3) := by decide +kernel
theorem dX3_inside_36 : decode cX3_inside 36 = .ok (.iconst 1, 1) := by decide +kernel
theorem dX3_inside_37 : decode cX3_inside 37 = .ok (.goto 4, 3) := by decide +kernel
theorem dX3_inside_40 : decode cX3_inside 40 = .ok (.iconst 0, 1) := by decide +kernel
theorem dX3_inside_41 : decode cX3_inside 41 = .ok (.iadd, 1) := by decide +kernel
theorem dX3_inside_42 : decode cX3_inside 42 = .ok (.istore_n 2, 1) := by decide +kernel
theorem dX3_inside_43 : decode cX3_inside 43 = .ok (.iinc 3 1, 3) := by decide +kernel
theorem dX3_inside_46 : decode cX3_inside 46 = .ok (.goto (-42), 3) := by decide +kernel
theorem dX3_inside_49 : decode cX3_inside 49 = .ok (.iload_n 2, 1) := by decide +kernel
theorem dX3_inside_50 : decode cX3_inside 50 = .ok (.ireturn, 1) := by decide +kernel
set_option maxRecDepth 20000 in
theorem ggX3_reads_X3_isNoAccount : GoodIn wsX3_reads wsX3_isNoAccount := goodIn_r _ [7, 8, 9, 10, 6, 11, 41, 42, 43, 44, 45, 46, 47, 48, 49, 50, 51, 52, 53, 54, 55, 56, 57, 58, 59] (by decide +kernel) (by decide +kernel)
set_option maxRecDepth 20000 in
theorem gX3_reads_X3_isNoAccount : GoodIn wsX3_reads (wsV RX3 71 RX3 yX3_isNoAccount wsX3_isNoAccount) := goodIn_app (goodIn_of _ (by decide +kernel)) ggX3_reads_X3_isNoAccount
set_option maxRecDepth 20000 in
theorem ggX3_reads_X3_isNoRoom : GoodIn wsX3_reads wsX3_isNoRoom := goodIn_r _ [15, 16, 9, 10, 6, 11, 41, 42, 43, 44, 45, 46, 47, 48, 49, 50, 51, 52, 53, 54, 55, 56, 57, 58, 59] (by decide +kernel) (by decide +kernel)
set_option maxRecDepth 20000 in
theorem gX3_reads_X3_isNoRoom : GoodIn wsX3_reads (wsV RX3 117 RX3 yX3_isNoRoom wsX3_isNoRoom) := goodIn_app (goodIn_of _ (by decide +kernel)) ggX3_reads_X3_isNoRoom
set_option maxRecDepth 20000 in
theorem ggX3_reads_X3_fails : GoodIn wsX3_reads wsX3_fails := goodIn_r _ [20, 21, 41, 42, 43, 44, 45, 46, 47, 48, 49, 50, 51, 52, 53, 54, 55, 56, 57, 58, 59] (by decide +kernel) (by decide +kernel)
set_option maxRecDepth 20000 in
theorem gX3_reads_X3_fails : GoodIn wsX3_reads (wsV RX3 67 RX3 yX3_fails wsX3_fails) := goodIn_app (goodIn_of _ (by decide +kernel)) ggX3_reads_X3_fails
set_option maxRecDepth 20000 in
theorem ggX3_reads_X3_inside : GoodIn wsX3_reads wsX3_inside := goodIn_ca (goodIn_r _ [25, 8, 1, 2, 26, 27, 28, 6, 29, 30, 31, 32, 33, 34, 35, 36, 37, 38, 39, 40, 41, 42, 43, 44, 45, 46, 47, 48, 49, 50, 51, 52, 53, 54, 55, 56, 57, 58, 59] (by decide +kernel) (by decide +kernel)) (goodIn_sub (fun _ h => List.mem_cons_of_mem _ (List.mem_append_right _ h)) (by decide +kernel))
set_option maxRecDepth 20000 in
theorem gX3_reads_X3_inside : GoodIn wsX3_reads (wsV RX3 120 RX3 yX3_inside wsX3_inside) := goodIn_app (goodIn_of _ (by decide +kernel)) ggX3_reads_X3_inside
set_option maxRecDepth 20000 in
theorem ggX3_reads_X3_isMember : GoodIn wsX3_reads wsX3_isMember := goodIn_ca (goodIn_r _ [29, 30, 31, 32, 33, 34, 6, 35, 36, 37, 38, 39, 40, 41, 42, 43, 44, 45, 46, 47, 48, 49, 50, 51, 52, 53, 54, 55, 56, 57, 58, 59] (by decide +kernel) (by decide +kernel)) (goodIn_sub (fun _ h => List.mem_cons_of_mem _ (List.mem_append_right _ h)) (by decide +kernel))
set_option maxRecDepth 20000 in
theorem gX3_reads_X3_isMember : GoodIn wsX3_reads (wsV RX3 94 RX3 yX3_isMember wsX3_isMember) := goodIn_app (goodIn_of _ (by decide +kernel)) ggX3_reads_X3_isMember
theorem dX3_reads_0 : decode cX3_reads 0 = .ok (.aload_n 0, 1) := by decide +kernel
theorem dX3_reads_1 : decode cX3_reads 1 = .ok (.aload_n 0, 1) := by decide +kernel
theorem dX3_reads_2 : decode cX3_reads 2 = .ok (.iload_n 1, 1) := by decide +kernel
theorem dX3_reads_3 : decode cX3_reads 3 = .ok (.invokevirtual 71, 3) := by decide +kernel
theorem dX3_reads_6 : decode cX3_reads 6 = .ok (.ifCond .ne 11, 3) := by decide +kernel
theorem dX3_reads_9 : decode cX3_reads 9 = .ok (.aload_n 0, 1) := by decide +kernel
theorem dX3_reads_10 : decode cX3_reads 10 = .ok (.iload_n 2, 1) := by decide +kernel
theorem dX3_reads_11 : decode cX3_reads 11 = .ok (.invokevirtual 117, 3) := by decide +kernel
theorem dX3_reads_14 : decode cX3_reads 14 = .ok (.ifCond .eq 7, 3) := by decide +kernel
theorem dX3_reads_17 : decode cX3_reads 17 = .ok (.iconst 1, 1) := by decide +kernel
theorem dX3_reads_18 : decode cX3_reads 18 = .ok (.goto 4, 3) := by decide +kernel
theorem dX3_reads_21 : decode cX3_reads 21 = .ok (.iconst 0, 1) := by decide +kernel
theorem dX3_reads_22 : decode cX3_reads 22 = .ok (.invokevirtual 67, 3) := by decide +kernel
theorem dX3_reads_25 : decode cX3_reads 25 = .ok (.ifCond .eq 5, 3) := by decide +kernel
theorem dX3_reads_28 : decode cX3_reads 28 = .ok (.iconst 0, 1) := by decide +kernel
theorem dX3_reads_29 : decode cX3_reads 29 = .ok (.ireturn, 1) := by decide +kernel
theorem dX3_reads_30 : decode cX3_reads 30 = .ok (.aload_n 0, 1) := by decide +kernel
theorem dX3_reads_31 : decode cX3_reads 31 = .ok (.iload_n 2, 1) := by decide +kernel
theorem dX3_reads_32 : decode cX3_reads 32 = .ok (.invokevirtual 120, 3) := by decide +kernel
theorem dX3_reads_35 : decode cX3_reads 35 = .ok (.ifCond .ne 15, 3) := by decide +kernel
theorem dX3_reads_38 : decode cX3_reads 38 = .ok (.iload_n 1, 1) := by decide +kernel
theorem dX3_reads_39 : decode cX3_reads 39 = .ok (.ifCond .ne 7, 3) := by decide +kernel
theorem dX3_reads_42 : decode cX3_reads 42 = .ok (.iconst 1, 1) := by decide +kernel
theorem dX3_reads_43 : decode cX3_reads 43 = .ok (.goto 35, 3) := by decide +kernel
theorem dX3_reads_46 : decode cX3_reads 46 = .ok (.iconst 0, 1) := by decide +kernel
theorem dX3_reads_47 : decode cX3_reads 47 = .ok (.goto 31, 3) := by decide +kernel
theorem dX3_reads_50 : decode cX3_reads 50 = .ok (.aload_n 0, 1) := by decide +kernel
theorem dX3_reads_51 : decode cX3_reads 51 = .ok (.getfield 13, 3) := by decide +kernel
theorem dX3_reads_54 : decode cX3_reads 54 = .ok (.iload_n 1, 1) := by decide +kernel
theorem dX3_reads_55 : decode cX3_reads 55 = .ok (.baload, 1) := by decide +kernel
theorem dX3_reads_56 : decode cX3_reads 56 = .ok (.ifCond .ne 21, 3) := by decide +kernel
theorem dX3_reads_59 : decode cX3_reads 59 = .ok (.aload_n 0, 1) := by decide +kernel
theorem dX3_reads_60 : decode cX3_reads 60 = .ok (.iload_n 1, 1) := by decide +kernel
theorem dX3_reads_61 : decode cX3_reads 61 = .ok (.aload_n 0, 1) := by decide +kernel
theorem dX3_reads_62 : decode cX3_reads 62 = .ok (.getfield 48, 3) := by decide +kernel
theorem dX3_reads_65 : decode cX3_reads 65 = .ok (.iload_n 2, 1) := by decide +kernel
theorem dX3_reads_66 : decode cX3_reads 66 = .ok (.iaload, 1) := by decide +kernel
theorem dX3_reads_67 : decode cX3_reads 67 = .ok (.invokevirtual 94, 3) := by decide +kernel
theorem dX3_reads_70 : decode cX3_reads 70 = .ok (.ifCond .eq 7, 3) := by decide +kernel
theorem dX3_reads_73 : decode cX3_reads 73 = .ok (.iconst 1, 1) := by decide +kernel
theorem dX3_reads_74 : decode cX3_reads 74 = .ok (.goto 4, 3) := by decide +kernel
theorem dX3_reads_77 : decode cX3_reads 77 = .ok (.iconst 0, 1) := by decide +kernel
theorem dX3_reads_78 : decode cX3_reads 78 = .ok (.ireturn, 1) := by decide +kernel
set_option maxRecDepth 20000 in
theorem ggX3_readers_X3_isNoRoom : GoodIn wsX3_readers wsX3_isNoRoom := goodIn_r _ [5, 6, 7, 8, 4, 9, 37, 38, 39, 40, 41, 42, 43, 44, 45, 46, 47, 48, 49, 50, 51, 52, 53, 54, 55] (by decide +kernel) (by decide +kernel)
set_option maxRecDepth 20000 in
theorem gX3_readers_X3_isNoRoom : GoodIn wsX3_readers (wsV RX3 117 RX3 yX3_isNoRoom wsX3_isNoRoom) := goodIn_app (goodIn_of _ (by decide +kernel)) ggX3_readers_X3_isNoRoom
set_option maxRecDepth 20000 in
theorem ggX3_readers_X3_fails : GoodIn wsX3_readers wsX3_fails := goodIn_r _ [13, 14, 37, 38, 39, 40, 41, 42, 43, 44, 45, 46, 47, 48, 49, 50, 51, 52, 53, 54, 55] (by decide +kernel) (by decide +kernel)
set_option maxRecDepth 20000 in
theorem gX3_readers_X3_fails : GoodIn wsX3_readers (wsV RX3 67 RX3 yX3_fails wsX3_fails) := goodIn_app (goodIn_of _ (by decide +kernel)) ggX3_readers_X3_fails
set_option maxRecDepth 20000 in
theorem ggX3_readers_X3_inside : GoodIn wsX3_readers wsX3_inside := goodIn_ca (goodIn_r _ [18, 19, 20, 21, 22, 23, 24, 4, 25, 26, 27, 28, 29, 30, 31, 32, 33, 34, 35, 36, 37, 38, 39, 40, 41, 42, 43, 44, 45, 46, 47, 48, 49, 50, 51, 52, 53, 54, 55] (by decide +kernel) (by decide +kernel)) (goodIn_sub (fun _ h => List.mem_cons_of_mem _ (List.mem_append_right _ h)) (by decide +kernel))
set_option maxRecDepth 20000 in
theorem gX3_readers_X3_inside : GoodIn wsX3_readers (wsV RX3 120 RX3 yX3_inside wsX3_inside) := goodIn_app (goodIn_of _ (by decide +kernel)) ggX3_readers_X3_inside
theorem dX3_readers_0 : decode cX3_readers 0 = .ok (.aload_n 0, 1) := by decide +kernel
theorem dX3_readers_1 : decode cX3_readers 1 = .ok (.aload_n 0, 1) := by decide +kernel
theorem dX3_readers_2 : decode cX3_readers 2 = .ok (.iload_n 1, 1) := by decide +kernel
theorem dX3_readers_3 : decode cX3_readers 3 = .ok (.invokevirtual 117, 3) := by decide +kernel
theorem dX3_readers_6 : decode cX3_readers 6 = .ok (.ifCond .eq 7, 3) := by decide +kernel
theorem dX3_readers_9 : decode cX3_readers 9 = .ok (.iconst 1, 1) := by decide +kernel
theorem dX3_readers_10 : decode cX3_readers 10 = .ok (.goto 4, 3) := by decide +kernel
theorem dX3_readers_13 : decode cX3_readers 13 = .ok (.iconst 0, 1) := by decide +kernel
theorem dX3_readers_14 : decode cX3_readers 14 = .ok (.invokevirtual 67, 3) := by decide +kernel
theorem dX3_readers_17 : decode cX3_readers 17 = .ok (.ifCond .eq 7, 3) := by decide +kernel
theorem dX3_readers_20 : decode cX3_readers 20 = .ok (.iconst 0, 1) := by decide +kernel
theorem dX3_readers_21 : decode cX3_readers 21 = .ok (.goto 20, 3) := by decide +kernel
theorem dX3_readers_24 : decode cX3_readers 24 = .ok (.aload_n 0, 1) := by decide +kernel
theorem dX3_readers_25 : decode cX3_readers 25 = .ok (.iload_n 1, 1) := by decide +kernel
theorem dX3_readers_26 : decode cX3_readers 26 = .ok (.invokevirtual 120, 3) := by decide +kernel
theorem dX3_readers_29 : decode cX3_readers 29 = .ok (.ifCond .ne 7, 3) := by decide +kernel
theorem dX3_readers_32 : decode cX3_readers 32 = .ok (.iconst 1, 1) := by decide +kernel
theorem dX3_readers_33 : decode cX3_readers 33 = .ok (.goto 8, 3) := by decide +kernel
theorem dX3_readers_36 : decode cX3_readers 36 = .ok (.aload_n 0, 1) := by decide +kernel
theorem dX3_readers_37 : decode cX3_readers 37 = .ok (.iload_n 1, 1) := by decide +kernel
theorem dX3_readers_38 : decode cX3_readers 38 = .ok (.invokevirtual 120, 3) := by decide +kernel
theorem dX3_readers_41 : decode cX3_readers 41 = .ok (.ireturn, 1) := by decide +kernel
theorem dX3_heirOf_0 : decode cX3_heirOf 0 = .ok (.iconst 0, 1) := by decide +kernel
theorem dX3_heirOf_1 : decode cX3_heirOf 1 = .ok (.istore_n 2, 1) := by decide +kernel
theorem dX3_heirOf_2 : decode cX3_heirOf 2 = .ok (.iload_n 2, 1) := by decide +kernel
theorem dX3_heirOf_3 : decode cX3_heirOf 3 = .ok (.aload_n 0, 1) := by decide +kernel
theorem dX3_heirOf_4 : decode cX3_heirOf 4 = .ok (.getfield 7, 3) := by decide +kernel
theorem dX3_heirOf_7 : decode cX3_heirOf 7 = .ok (.if_icmp .ge 25, 3) := by decide +kernel
theorem dX3_heirOf_10 : decode cX3_heirOf 10 = .ok (.aload_n 0, 1) := by decide +kernel
theorem dX3_heirOf_11 : decode cX3_heirOf 11 = .ok (.getfield 51, 3) := by decide +kernel
theorem dX3_heirOf_14 : decode cX3_heirOf 14 = .ok (.iload_n 2, 1) := by decide +kernel
theorem dX3_heirOf_15 : decode cX3_heirOf 15 = .ok (.iload_n 2, 1) := by decide +kernel
theorem dX3_heirOf_16 : decode cX3_heirOf 16 = .ok (.iload_n 1, 1) := by decide +kernel
theorem dX3_heirOf_17 : decode cX3_heirOf 17 = .ok (.if_icmp .ne 7, 3) := by decide +kernel
theorem dX3_heirOf_20 : decode cX3_heirOf 20 = .ok (.iconst 1, 1) := by decide +kernel
theorem dX3_heirOf_21 : decode cX3_heirOf 21 = .ok (.goto 4, 3) := by decide +kernel
theorem dX3_heirOf_24 : decode cX3_heirOf 24 = .ok (.iconst 0, 1) := by decide +kernel
theorem dX3_heirOf_25 : decode cX3_heirOf 25 = .ok (.bastore, 1) := by decide +kernel
theorem dX3_heirOf_26 : decode cX3_heirOf 26 = .ok (.iinc 2 1, 3) := by decide +kernel
theorem dX3_heirOf_29 : decode cX3_heirOf 29 = .ok (.goto (-27), 3) := by decide +kernel
theorem dX3_heirOf_32 : decode cX3_heirOf 32 = .ok (.aload_n 0, 1) := by decide +kernel
theorem dX3_heirOf_33 : decode cX3_heirOf 33 = .ok (.getfield 17, 3) := by decide +kernel
theorem dX3_heirOf_36 : decode cX3_heirOf 36 = .ok (.iload_n 1, 1) := by decide +kernel
theorem dX3_heirOf_37 : decode cX3_heirOf 37 = .ok (.iaload, 1) := by decide +kernel
theorem dX3_heirOf_38 : decode cX3_heirOf 38 = .ok (.istore_n 2, 1) := by decide +kernel
theorem dX3_heirOf_39 : decode cX3_heirOf 39 = .ok (.iload_n 2, 1) := by decide +kernel
theorem dX3_heirOf_40 : decode cX3_heirOf 40 = .ok (.ifCond .lt 40, 3) := by decide +kernel
theorem dX3_heirOf_43 : decode cX3_heirOf 43 = .ok (.aload_n 0, 1) := by decide +kernel
theorem dX3_heirOf_44 : decode cX3_heirOf 44 = .ok (.getfield 51, 3) := by decide +kernel
theorem dX3_heirOf_47 : decode cX3_heirOf 47 = .ok (.iload_n 2, 1) := by decide +kernel
theorem dX3_heirOf_48 : decode cX3_heirOf 48 = .ok (.baload, 1) := by decide +kernel
theorem dX3_heirOf_49 : decode cX3_heirOf 49 = .ok (.ifCond .ne 31, 3) := by decide +kernel
theorem dX3_heirOf_52 : decode cX3_heirOf 52 = .ok (.aload_n 0, 1) := by decide +kernel
theorem dX3_heirOf_53 : decode cX3_heirOf 53 = .ok (.getfield 13, 3) := by decide +kernel
theorem dX3_heirOf_56 : decode cX3_heirOf 56 = .ok (.iload_n 2, 1) := by decide +kernel
theorem dX3_heirOf_57 : decode cX3_heirOf 57 = .ok (.baload, 1) := by decide +kernel
theorem dX3_heirOf_58 : decode cX3_heirOf 58 = .ok (.ifCond .ne 5, 3) := by decide +kernel
theorem dX3_heirOf_61 : decode cX3_heirOf 61 = .ok (.iload_n 2, 1) := by decide +kernel
theorem dX3_heirOf_62 : decode cX3_heirOf 62 = .ok (.ireturn, 1) := by decide +kernel
theorem dX3_heirOf_63 : decode cX3_heirOf 63 = .ok (.aload_n 0, 1) := by decide +kernel
theorem dX3_heirOf_64 : decode cX3_heirOf 64 = .ok (.getfield 51, 3) := by decide +kernel
theorem dX3_heirOf_67 : decode cX3_heirOf 67 = .ok (.iload_n 2, 1) := by decide +kernel
theorem dX3_heirOf_68 : decode cX3_heirOf 68 = .ok (.iconst 1, 1) := by decide +kernel
theorem dX3_heirOf_69 : decode cX3_heirOf 69 = .ok (.bastore, 1) := by decide +kernel
theorem dX3_heirOf_70 : decode cX3_heirOf 70 = .ok (.aload_n 0, 1) := by decide +kernel
theorem dX3_heirOf_71 : decode cX3_heirOf 71 = .ok (.getfield 17, 3) := by decide +kernel
theorem dX3_heirOf_74 : decode cX3_heirOf 74 = .ok (.iload_n 2, 1) := by decide +kernel
theorem dX3_heirOf_75 : decode cX3_heirOf 75 = .ok (.iaload, 1) := by decide +kernel
theorem dX3_heirOf_76 : decode cX3_heirOf 76 = .ok (.istore_n 2, 1) := by decide +kernel
theorem dX3_heirOf_77 : decode cX3_heirOf 77 = .ok (.goto (-38), 3) := by decide +kernel
theorem dX3_heirOf_80 : decode cX3_heirOf 80 = .ok (.iconst (-1), 1) := by decide +kernel
theorem dX3_heirOf_81 : decode cX3_heirOf 81 = .ok (.ireturn, 1) := by decide +kernel
set_option maxRecDepth 20000 in
theorem ggX3_keeperOf_X3_heirOf : GoodIn wsX3_keeperOf wsX3_heirOf := goodIn_ca (goodIn_r _ [9, 10, 11, 12, 4, 13, 14, 15, 16, 17, 18, 19, 20, 21, 22, 23, 24, 25, 26, 27, 28, 29, 30, 31] (by decide +kernel) (by decide +kernel)) (goodIn_sub (fun _ h => List.mem_cons_of_mem _ (List.mem_append_right _ h)) (by decide +kernel))
set_option maxRecDepth 20000 in
theorem gX3_keeperOf_X3_heirOf : GoodIn wsX3_keeperOf (wsV RX3 123 RX3 yX3_heirOf wsX3_heirOf) := goodIn_app (goodIn_of _ (by decide +kernel)) ggX3_keeperOf_X3_heirOf
theorem dX3_keeperOf_0 : decode cX3_keeperOf 0 = .ok (.aload_n 0, 1) := by decide +kernel
theorem dX3_keeperOf_1 : decode cX3_keeperOf 1 = .ok (.getfield 30, 3) := by decide +kernel
theorem dX3_keeperOf_4 : decode cX3_keeperOf 4 = .ok (.iload_n 1, 1) := by decide +kernel
theorem dX3_keeperOf_5 : decode cX3_keeperOf 5 = .ok (.iaload, 1) := by decide +kernel
theorem dX3_keeperOf_6 : decode cX3_keeperOf 6 = .ok (.istore_n 2, 1) := by decide +kernel
theorem dX3_keeperOf_7 : decode cX3_keeperOf 7 = .ok (.aload_n 0, 1) := by decide +kernel
theorem dX3_keeperOf_8 : decode cX3_keeperOf 8 = .ok (.iload_n 2, 1) := by decide +kernel
theorem dX3_keeperOf_9 : decode cX3_keeperOf 9 = .ok (.invokevirtual 123, 3) := by decide +kernel
theorem dX3_keeperOf_12 : decode cX3_keeperOf 12 = .ok (.ifCond .lt 9, 3) := by decide +kernel
theorem dX3_keeperOf_15 : decode cX3_keeperOf 15 = .ok (.aload_n 0, 1) := by decide +kernel
theorem dX3_keeperOf_16 : decode cX3_keeperOf 16 = .ok (.iload_n 2, 1) := by decide +kernel
theorem dX3_keeperOf_17 : decode cX3_keeperOf 17 = .ok (.invokevirtual 123, 3) := by decide +kernel
theorem dX3_keeperOf_20 : decode cX3_keeperOf 20 = .ok (.ireturn, 1) := by decide +kernel
theorem dX3_keeperOf_21 : decode cX3_keeperOf 21 = .ok (.aload_n 0, 1) := by decide +kernel
theorem dX3_keeperOf_22 : decode cX3_keeperOf 22 = .ok (.getfield 33, 3) := by decide +kernel
theorem dX3_keeperOf_25 : decode cX3_keeperOf 25 = .ok (.iload_n 1, 1) := by decide +kernel
theorem dX3_keeperOf_26 : decode cX3_keeperOf 26 = .ok (.iaload, 1) := by decide +kernel
theorem dX3_keeperOf_27 : decode cX3_keeperOf 27 = .ok (.istore_n 3, 1) := by decide +kernel
theorem dX3_keeperOf_28 : decode cX3_keeperOf 28 = .ok (.iload_n 3, 1) := by decide +kernel
theorem dX3_keeperOf_29 : decode cX3_keeperOf 29 = .ok (.ifCond .lt 32, 3) := by decide +kernel
theorem dX3_keeperOf_32 : decode cX3_keeperOf 32 = .ok (.aload_n 0, 1) := by decide +kernel
theorem dX3_keeperOf_33 : decode cX3_keeperOf 33 = .ok (.getfield 30, 3) := by decide +kernel
theorem dX3_keeperOf_36 : decode cX3_keeperOf 36 = .ok (.iload_n 3, 1) := by decide +kernel
theorem dX3_keeperOf_37 : decode cX3_keeperOf 37 = .ok (.iaload, 1) := by decide +kernel
theorem dX3_keeperOf_38 : decode cX3_keeperOf 38 = .ok (.iload_n 2, 1) := by decide +kernel
theorem dX3_keeperOf_39 : decode cX3_keeperOf 39 = .ok (.if_icmp .ne 22, 3) := by decide +kernel
theorem dX3_keeperOf_42 : decode cX3_keeperOf 42 = .ok (.aload_n 0, 1) := by decide +kernel
theorem dX3_keeperOf_43 : decode cX3_keeperOf 43 = .ok (.getfield 39, 3) := by decide +kernel
theorem dX3_keeperOf_46 : decode cX3_keeperOf 46 = .ok (.iload_n 3, 1) := by decide +kernel
theorem dX3_keeperOf_47 : decode cX3_keeperOf 47 = .ok (.baload, 1) := by decide +kernel
theorem dX3_keeperOf_48 : decode cX3_keeperOf 48 = .ok (.ifCond .ne 13, 3) := by decide +kernel
theorem dX3_keeperOf_51 : decode cX3_keeperOf 51 = .ok (.aload_n 0, 1) := by decide +kernel
theorem dX3_keeperOf_52 : decode cX3_keeperOf 52 = .ok (.getfield 33, 3) := by decide +kernel
theorem dX3_keeperOf_55 : decode cX3_keeperOf 55 = .ok (.iload_n 3, 1) := by decide +kernel
theorem dX3_keeperOf_56 : decode cX3_keeperOf 56 = .ok (.iaload, 1) := by decide +kernel
theorem dX3_keeperOf_57 : decode cX3_keeperOf 57 = .ok (.istore_n 3, 1) := by decide +kernel
theorem dX3_keeperOf_58 : decode cX3_keeperOf 58 = .ok (.goto (-30), 3) := by decide +kernel
theorem dX3_keeperOf_61 : decode cX3_keeperOf 61 = .ok (.iload_n 3, 1) := by decide +kernel
theorem dX3_keeperOf_62 : decode cX3_keeperOf 62 = .ok (.ifCond .lt 27, 3) := by decide +kernel
theorem dX3_keeperOf_65 : decode cX3_keeperOf 65 = .ok (.aload_n 0, 1) := by decide +kernel
theorem dX3_keeperOf_66 : decode cX3_keeperOf 66 = .ok (.getfield 30, 3) := by decide +kernel
theorem dX3_keeperOf_69 : decode cX3_keeperOf 69 = .ok (.iload_n 3, 1) := by decide +kernel
theorem dX3_keeperOf_70 : decode cX3_keeperOf 70 = .ok (.iaload, 1) := by decide +kernel
theorem dX3_keeperOf_71 : decode cX3_keeperOf 71 = .ok (.iload_n 2, 1) := by decide +kernel
theorem dX3_keeperOf_72 : decode cX3_keeperOf 72 = .ok (.if_icmp .eq 17, 3) := by decide +kernel
theorem dX3_keeperOf_75 : decode cX3_keeperOf 75 = .ok (.aload_n 0, 1) := by decide +kernel
theorem dX3_keeperOf_76 : decode cX3_keeperOf 76 = .ok (.getfield 13, 3) := by decide +kernel
theorem dX3_keeperOf_79 : decode cX3_keeperOf 79 = .ok (.aload_n 0, 1) := by decide +kernel
theorem dX3_keeperOf_80 : decode cX3_keeperOf 80 = .ok (.getfield 30, 3) := by decide +kernel
theorem dX3_keeperOf_83 : decode cX3_keeperOf 83 = .ok (.iload_n 3, 1) := by decide +kernel
theorem dX3_keeperOf_84 : decode cX3_keeperOf 84 = .ok (.iaload, 1) := by decide +kernel
theorem dX3_keeperOf_85 : decode cX3_keeperOf 85 = .ok (.baload, 1) := by decide +kernel
theorem dX3_keeperOf_86 : decode cX3_keeperOf 86 = .ok (.ifCond .eq 7, 3) := by decide +kernel
theorem dX3_keeperOf_89 : decode cX3_keeperOf 89 = .ok (.iconst 0, 1) := by decide +kernel
theorem dX3_keeperOf_90 : decode cX3_keeperOf 90 = .ok (.goto 9, 3) := by decide +kernel
theorem dX3_keeperOf_93 : decode cX3_keeperOf 93 = .ok (.aload_n 0, 1) := by decide +kernel
theorem dX3_keeperOf_94 : decode cX3_keeperOf 94 = .ok (.getfield 30, 3) := by decide +kernel
theorem dX3_keeperOf_97 : decode cX3_keeperOf 97 = .ok (.iload_n 3, 1) := by decide +kernel
theorem dX3_keeperOf_98 : decode cX3_keeperOf 98 = .ok (.iaload, 1) := by decide +kernel
theorem dX3_keeperOf_99 : decode cX3_keeperOf 99 = .ok (.ireturn, 1) := by decide +kernel
set_option maxRecDepth 20000 in
theorem ggX3_keeper_X3_isNoFolder : GoodIn wsX3_keeper wsX3_isNoFolder := goodIn_r _ [5, 6, 7, 8, 4, 9, 30, 31, 32, 33, 34, 35, 36, 37, 38, 39, 40, 41, 42, 43, 44, 45, 46, 47, 48] (by decide +kernel) (by decide +kernel)
set_option maxRecDepth 20000 in
theorem gX3_keeper_X3_isNoFolder : GoodIn wsX3_keeper (wsV RX3 97 RX3 yX3_isNoFolder wsX3_isNoFolder) := goodIn_app (goodIn_of _ (by decide +kernel)) ggX3_keeper_X3_isNoFolder
set_option maxRecDepth 20000 in
theorem ggX3_keeper_X3_fails : GoodIn wsX3_keeper wsX3_fails := goodIn_r _ [13, 14, 30, 31, 32, 33, 34, 35, 36, 37, 38, 39, 40, 41, 42, 43, 44, 45, 46, 47, 48] (by decide +kernel) (by decide +kernel)
set_option maxRecDepth 20000 in
theorem gX3_keeper_X3_fails : GoodIn wsX3_keeper (wsV RX3 67 RX3 yX3_fails wsX3_fails) := goodIn_app (goodIn_of _ (by decide +kernel)) ggX3_keeper_X3_fails
set_option maxRecDepth 20000 in
theorem ggX3_keeper_X3_keeperOf : GoodIn wsX3_keeper wsX3_keeperOf := goodIn_ca (goodIn_r _ [18, 19, 20, 21, 22, 23, 24, 25, 4, 26, 27, 28, 29, 30, 31, 32, 33, 34, 35, 36, 37, 38, 39, 40, 41, 42, 43, 44, 45, 46, 47, 48] (by decide +kernel) (by decide +kernel)) (goodIn_sub (fun _ h => List.mem_cons_of_mem _ (List.mem_append_right _ h)) (by decide +kernel))
set_option maxRecDepth 20000 in
theorem gX3_keeper_X3_keeperOf : GoodIn wsX3_keeper (wsV RX3 126 RX3 yX3_keeperOf wsX3_keeperOf) := goodIn_app (goodIn_of _ (by decide +kernel)) ggX3_keeper_X3_keeperOf
theorem dX3_keeper_0 : decode cX3_keeper 0 = .ok (.aload_n 0, 1) := by decide +kernel
theorem dX3_keeper_1 : decode cX3_keeper 1 = .ok (.aload_n 0, 1) := by decide +kernel
theorem dX3_keeper_2 : decode cX3_keeper 2 = .ok (.iload_n 1, 1) := by decide +kernel
theorem dX3_keeper_3 : decode cX3_keeper 3 = .ok (.invokevirtual 97, 3) := by decide +kernel
theorem dX3_keeper_6 : decode cX3_keeper 6 = .ok (.ifCond .eq 7, 3) := by decide +kernel
theorem dX3_keeper_9 : decode cX3_keeper 9 = .ok (.iconst 1, 1) := by decide +kernel
theorem dX3_keeper_10 : decode cX3_keeper 10 = .ok (.goto 4, 3) := by decide +kernel
theorem dX3_keeper_13 : decode cX3_keeper 13 = .ok (.iconst 0, 1) := by decide +kernel
theorem dX3_keeper_14 : decode cX3_keeper 14 = .ok (.invokevirtual 67, 3) := by decide +kernel
theorem dX3_keeper_17 : decode cX3_keeper 17 = .ok (.ifCond .eq 7, 3) := by decide +kernel
theorem dX3_keeper_20 : decode cX3_keeper 20 = .ok (.iconst 0, 1) := by decide +kernel
theorem dX3_keeper_21 : decode cX3_keeper 21 = .ok (.goto 8, 3) := by decide +kernel
theorem dX3_keeper_24 : decode cX3_keeper 24 = .ok (.aload_n 0, 1) := by decide +kernel
theorem dX3_keeper_25 : decode cX3_keeper 25 = .ok (.iload_n 1, 1) := by decide +kernel
theorem dX3_keeper_26 : decode cX3_keeper 26 = .ok (.invokevirtual 126, 3) := by decide +kernel
theorem dX3_keeper_29 : decode cX3_keeper 29 = .ok (.ireturn, 1) := by decide +kernel
set_option maxRecDepth 20000 in
theorem ggX3_leave_X3_isNoAccount : GoodIn wsX3_leave wsX3_isNoAccount := goodIn_r _ [9, 10, 11, 12, 8, 13, 30, 31, 32, 33, 34, 35, 36, 37, 38, 39, 40, 41, 42, 43, 44, 45, 46, 47, 48] (by decide +kernel) (by decide +kernel)
set_option maxRecDepth 20000 in
theorem gX3_leave_X3_isNoAccount : GoodIn wsX3_leave (wsV RX3 71 RX3 yX3_isNoAccount wsX3_isNoAccount) := goodIn_app (goodIn_of _ (by decide +kernel)) ggX3_leave_X3_isNoAccount
set_option maxRecDepth 20000 in
theorem ggX3_leave_X3_fails : GoodIn wsX3_leave wsX3_fails := goodIn_r _ [17, 18, 30, 31, 32, 33, 34, 35, 36, 37, 38, 39, 40, 41, 42, 43, 44, 45, 46, 47, 48] (by decide +kernel) (by decide +kernel)
set_option maxRecDepth 20000 in
theorem gX3_leave_X3_fails : GoodIn wsX3_leave (wsV RX3 67 RX3 yX3_fails wsX3_fails) := goodIn_app (goodIn_of _ (by decide +kernel)) ggX3_leave_X3_fails
set_option maxRecDepth 20000 in
theorem ggX3_leave_X3_keeperOf : GoodIn wsX3_leave wsX3_keeperOf := goodIn_ca (goodIn_r _ [22, 3, 23, 4, 1, 24, 25, 26, 8, 27, 10, 28, 29, 30, 31, 32, 33, 34, 35, 36, 37, 38, 39, 40, 41, 42, 43, 44, 45, 46, 47, 48] (by decide +kernel) (by decide +kernel)) (goodIn_sub (fun _ h => List.mem_cons_of_mem _ (List.mem_append_right _ h)) (by decide +kernel))
set_option maxRecDepth 20000 in
theorem gX3_leave_X3_keeperOf : GoodIn wsX3_leave (wsV RX3 126 RX3 yX3_keeperOf wsX3_keeperOf) := goodIn_app (goodIn_of _ (by decide +kernel)) ggX3_leave_X3_keeperOf
theorem dX3_leave_0 : decode cX3_leave 0 = .ok (.aload_n 0, 1) := by decide +kernel
theorem dX3_leave_1 : decode cX3_leave 1 = .ok (.aload_n 0, 1) := by decide +kernel
theorem dX3_leave_2 : decode cX3_leave 2 = .ok (.iload_n 1, 1) := by decide +kernel
theorem dX3_leave_3 : decode cX3_leave 3 = .ok (.invokevirtual 71, 3) := by decide +kernel
theorem dX3_leave_6 : decode cX3_leave 6 = .ok (.ifCond .eq 7, 3) := by decide +kernel
theorem dX3_leave_9 : decode cX3_leave 9 = .ok (.iconst 1, 1) := by decide +kernel
theorem dX3_leave_10 : decode cX3_leave 10 = .ok (.goto 25, 3) := by decide +kernel
theorem dX3_leave_13 : decode cX3_leave 13 = .ok (.iload_n 1, 1) := by decide +kernel
theorem dX3_leave_14 : decode cX3_leave 14 = .ok (.ifCond .ne 7, 3) := by decide +kernel
theorem dX3_leave_17 : decode cX3_leave 17 = .ok (.iconst 2, 1) := by decide +kernel
theorem dX3_leave_18 : decode cX3_leave 18 = .ok (.goto 17, 3) := by decide +kernel
theorem dX3_leave_21 : decode cX3_leave 21 = .ok (.aload_n 0, 1) := by decide +kernel
theorem dX3_leave_22 : decode cX3_leave 22 = .ok (.getfield 13, 3) := by decide +kernel
theorem dX3_leave_25 : decode cX3_leave 25 = .ok (.iload_n 1, 1) := by decide +kernel
theorem dX3_leave_26 : decode cX3_leave 26 = .ok (.baload, 1) := by decide +kernel
theorem dX3_leave_27 : decode cX3_leave 27 = .ok (.ifCond .eq 7, 3) := by decide +kernel
theorem dX3_leave_30 : decode cX3_leave 30 = .ok (.iconst 3, 1) := by decide +kernel
theorem dX3_leave_31 : decode cX3_leave 31 = .ok (.goto 4, 3) := by decide +kernel
theorem dX3_leave_34 : decode cX3_leave 34 = .ok (.iconst 0, 1) := by decide +kernel
theorem dX3_leave_35 : decode cX3_leave 35 = .ok (.invokevirtual 67, 3) := by decide +kernel
theorem dX3_leave_38 : decode cX3_leave 38 = .ok (.ifCond .eq 5, 3) := by decide +kernel
theorem dX3_leave_41 : decode cX3_leave 41 = .ok (.iconst 0, 1) := by decide +kernel
theorem dX3_leave_42 : decode cX3_leave 42 = .ok (.ireturn, 1) := by decide +kernel
theorem dX3_leave_43 : decode cX3_leave 43 = .ok (.aload_n 0, 1) := by decide +kernel
theorem dX3_leave_44 : decode cX3_leave 44 = .ok (.getfield 13, 3) := by decide +kernel
theorem dX3_leave_47 : decode cX3_leave 47 = .ok (.iload_n 1, 1) := by decide +kernel
theorem dX3_leave_48 : decode cX3_leave 48 = .ok (.iconst 1, 1) := by decide +kernel
theorem dX3_leave_49 : decode cX3_leave 49 = .ok (.bastore, 1) := by decide +kernel
theorem dX3_leave_50 : decode cX3_leave 50 = .ok (.iconst 0, 1) := by decide +kernel
theorem dX3_leave_51 : decode cX3_leave 51 = .ok (.istore_n 2, 1) := by decide +kernel
theorem dX3_leave_52 : decode cX3_leave 52 = .ok (.iconst 0, 1) := by decide +kernel
theorem dX3_leave_53 : decode cX3_leave 53 = .ok (.istore_n 3, 1) := by decide +kernel
theorem dX3_leave_54 : decode cX3_leave 54 = .ok (.iload_n 3, 1) := by decide +kernel
theorem dX3_leave_55 : decode cX3_leave 55 = .ok (.aload_n 0, 1) := by decide +kernel
theorem dX3_leave_56 : decode cX3_leave 56 = .ok (.getfield 64, 3) := by decide +kernel
theorem dX3_leave_59 : decode cX3_leave 59 = .ok (.if_icmp .ge 45, 3) := by decide +kernel
theorem dX3_leave_62 : decode cX3_leave 62 = .ok (.aload_n 0, 1) := by decide +kernel
theorem dX3_leave_63 : decode cX3_leave 63 = .ok (.getfield 30, 3) := by decide +kernel
theorem dX3_leave_66 : decode cX3_leave 66 = .ok (.iload_n 3, 1) := by decide +kernel
theorem dX3_leave_67 : decode cX3_leave 67 = .ok (.iaload, 1) := by decide +kernel
theorem dX3_leave_68 : decode cX3_leave 68 = .ok (.iload_n 1, 1) := by decide +kernel
theorem dX3_leave_69 : decode cX3_leave 69 = .ok (.if_icmp .ne 29, 3) := by decide +kernel
theorem dX3_leave_72 : decode cX3_leave 72 = .ok (.aload_n 0, 1) := by decide +kernel
theorem dX3_leave_73 : decode cX3_leave 73 = .ok (.getfield 39, 3) := by decide +kernel
theorem dX3_leave_76 : decode cX3_leave 76 = .ok (.iload_n 3, 1) := by decide +kernel
theorem dX3_leave_77 : decode cX3_leave 77 = .ok (.baload, 1) := by decide +kernel
theorem dX3_leave_78 : decode cX3_leave 78 = .ok (.ifCond .eq 6, 3) := by decide +kernel
theorem dX3_leave_81 : decode cX3_leave 81 = .ok (.goto 17, 3) := by decide +kernel
theorem dX3_leave_84 : decode cX3_leave 84 = .ok (.aload_n 0, 1) := by decide +kernel
theorem dX3_leave_85 : decode cX3_leave 85 = .ok (.getfield 30, 3) := by decide +kernel
theorem dX3_leave_88 : decode cX3_leave 88 = .ok (.iload_n 3, 1) := by decide +kernel
theorem dX3_leave_89 : decode cX3_leave 89 = .ok (.aload_n 0, 1) := by decide +kernel
theorem dX3_leave_90 : decode cX3_leave 90 = .ok (.iload_n 3, 1) := by decide +kernel
theorem dX3_leave_91 : decode cX3_leave 91 = .ok (.invokevirtual 126, 3) := by decide +kernel
theorem dX3_leave_94 : decode cX3_leave 94 = .ok (.iastore, 1) := by decide +kernel
theorem dX3_leave_95 : decode cX3_leave 95 = .ok (.iinc 2 1, 3) := by decide +kernel
theorem dX3_leave_98 : decode cX3_leave 98 = .ok (.iinc 3 1, 3) := by decide +kernel
theorem dX3_leave_101 : decode cX3_leave 101 = .ok (.goto (-47), 3) := by decide +kernel
theorem dX3_leave_104 : decode cX3_leave 104 = .ok (.iload_n 2, 1) := by decide +kernel
theorem dX3_leave_105 : decode cX3_leave 105 = .ok (.ireturn, 1) := by decide +kernel
theorem dX3_held_0 : decode cX3_held 0 = .ok (.iconst 0, 1) := by decide +kernel
theorem dX3_held_1 : decode cX3_held 1 = .ok (.istore_n 1, 1) := by decide +kernel
theorem dX3_held_2 : decode cX3_held 2 = .ok (.iconst 0, 1) := by decide +kernel
theorem dX3_held_3 : decode cX3_held 3 = .ok (.istore_n 2, 1) := by decide +kernel
theorem dX3_held_4 : decode cX3_held 4 = .ok (.iload_n 2, 1) := by decide +kernel
theorem dX3_held_5 : decode cX3_held 5 = .ok (.aload_n 0, 1) := by decide +kernel
theorem dX3_held_6 : decode cX3_held 6 = .ok (.getfield 64, 3) := by decide +kernel
theorem dX3_held_9 : decode cX3_held 9 = .ok (.if_icmp .ge 26, 3) := by decide +kernel
theorem dX3_held_12 : decode cX3_held 12 = .ok (.iload_n 1, 1) := by decide +kernel
theorem dX3_held_13 : decode cX3_held 13 = .ok (.aload_n 0, 1) := by decide +kernel
theorem dX3_held_14 : decode cX3_held 14 = .ok (.getfield 39, 3) := by decide +kernel
theorem dX3_held_17 : decode cX3_held 17 = .ok (.iload_n 2, 1) := by decide +kernel
theorem dX3_held_18 : decode cX3_held 18 = .ok (.baload, 1) := by decide +kernel
theorem dX3_held_19 : decode cX3_held 19 = .ok (.ifCond .eq 7, 3) := by decide +kernel
theorem dX3_held_22 : decode cX3_held 22 = .ok (.iconst 1, 1) := by decide +kernel
theorem dX3_held_23 : decode cX3_held 23 = .ok (.goto 4, 3) := by decide +kernel
theorem dX3_held_26 : decode cX3_held 26 = .ok (.iconst 0, 1) := by decide +kernel
theorem dX3_held_27 : decode cX3_held 27 = .ok (.iadd, 1) := by decide +kernel
theorem dX3_held_28 : decode cX3_held 28 = .ok (.istore_n 1, 1) := by decide +kernel
theorem dX3_held_29 : decode cX3_held 29 = .ok (.iinc 2 1, 3) := by decide +kernel
theorem dX3_held_32 : decode cX3_held 32 = .ok (.goto (-28), 3) := by decide +kernel
theorem dX3_held_35 : decode cX3_held 35 = .ok (.iload_n 1, 1) := by decide +kernel
theorem dX3_held_36 : decode cX3_held 36 = .ok (.ireturn, 1) := by decide +kernel
set_option maxRecDepth 20000 in
theorem ggX3_hold_X3_isNoFolder : GoodIn wsX3_hold wsX3_isNoFolder := goodIn_r _ [6, 7, 8, 9, 5, 10, 20, 21, 22, 23, 24, 25, 26, 27, 28, 29, 30, 31, 32, 33, 34, 35, 36, 37, 38] (by decide +kernel) (by decide +kernel)
set_option maxRecDepth 20000 in
theorem gX3_hold_X3_isNoFolder : GoodIn wsX3_hold (wsV RX3 97 RX3 yX3_isNoFolder wsX3_isNoFolder) := goodIn_app (goodIn_of _ (by decide +kernel)) ggX3_hold_X3_isNoFolder
set_option maxRecDepth 20000 in
theorem ggX3_hold_X3_fails : GoodIn wsX3_hold wsX3_fails := goodIn_r _ [14, 15, 20, 21, 22, 23, 24, 25, 26, 27, 28, 29, 30, 31, 32, 33, 34, 35, 36, 37, 38] (by decide +kernel) (by decide +kernel)
set_option maxRecDepth 20000 in
theorem gX3_hold_X3_fails : GoodIn wsX3_hold (wsV RX3 67 RX3 yX3_fails wsX3_fails) := goodIn_app (goodIn_of _ (by decide +kernel)) ggX3_hold_X3_fails
set_option maxRecDepth 20000 in
theorem ggX3_hold_X3_held : GoodIn wsX3_hold wsX3_held := goodIn_ca (goodIn_r _ [19, 7, 1, 20, 21, 22, 23, 24, 25, 26, 27, 28, 29, 30, 31, 32, 33, 34, 35, 36, 37, 38] (by decide +kernel) (by decide +kernel)) (goodIn_sub (fun _ h => List.mem_cons_of_mem _ (List.mem_append_right _ h)) (by decide +kernel))
set_option maxRecDepth 20000 in
theorem gX3_hold_X3_held : GoodIn wsX3_hold (wsV RX3 129 RX3 yX3_held wsX3_held) := goodIn_app (goodIn_of _ (by decide +kernel)) ggX3_hold_X3_held
theorem dX3_hold_0 : decode cX3_hold 0 = .ok (.aload_n 0, 1) := by decide +kernel
theorem dX3_hold_1 : decode cX3_hold 1 = .ok (.aload_n 0, 1) := by decide +kernel
theorem dX3_hold_2 : decode cX3_hold 2 = .ok (.iload_n 1, 1) := by decide +kernel
theorem dX3_hold_3 : decode cX3_hold 3 = .ok (.invokevirtual 97, 3) := by decide +kernel
theorem dX3_hold_6 : decode cX3_hold 6 = .ok (.ifCond .eq 7, 3) := by decide +kernel
theorem dX3_hold_9 : decode cX3_hold 9 = .ok (.iconst 1, 1) := by decide +kernel
theorem dX3_hold_10 : decode cX3_hold 10 = .ok (.goto 17, 3) := by decide +kernel
theorem dX3_hold_13 : decode cX3_hold 13 = .ok (.aload_n 0, 1) := by decide +kernel
theorem dX3_hold_14 : decode cX3_hold 14 = .ok (.getfield 39, 3) := by decide +kernel
theorem dX3_hold_17 : decode cX3_hold 17 = .ok (.iload_n 1, 1) := by decide +kernel
theorem dX3_hold_18 : decode cX3_hold 18 = .ok (.baload, 1) := by decide +kernel
theorem dX3_hold_19 : decode cX3_hold 19 = .ok (.ifCond .eq 7, 3) := by decide +kernel
theorem dX3_hold_22 : decode cX3_hold 22 = .ok (.iconst 2, 1) := by decide +kernel
theorem dX3_hold_23 : decode cX3_hold 23 = .ok (.goto 4, 3) := by decide +kernel
theorem dX3_hold_26 : decode cX3_hold 26 = .ok (.iconst 0, 1) := by decide +kernel
theorem dX3_hold_27 : decode cX3_hold 27 = .ok (.invokevirtual 67, 3) := by decide +kernel
theorem dX3_hold_30 : decode cX3_hold 30 = .ok (.ifCond .eq 5, 3) := by decide +kernel
theorem dX3_hold_33 : decode cX3_hold 33 = .ok (.iconst 0, 1) := by decide +kernel
theorem dX3_hold_34 : decode cX3_hold 34 = .ok (.ireturn, 1) := by decide +kernel
theorem dX3_hold_35 : decode cX3_hold 35 = .ok (.aload_n 0, 1) := by decide +kernel
theorem dX3_hold_36 : decode cX3_hold 36 = .ok (.getfield 39, 3) := by decide +kernel
theorem dX3_hold_39 : decode cX3_hold 39 = .ok (.iload_n 1, 1) := by decide +kernel
theorem dX3_hold_40 : decode cX3_hold 40 = .ok (.iconst 1, 1) := by decide +kernel
theorem dX3_hold_41 : decode cX3_hold 41 = .ok (.bastore, 1) := by decide +kernel
theorem dX3_hold_42 : decode cX3_hold 42 = .ok (.aload_n 0, 1) := by decide +kernel
theorem dX3_hold_43 : decode cX3_hold 43 = .ok (.invokevirtual 129, 3) := by decide +kernel
theorem dX3_hold_46 : decode cX3_hold 46 = .ok (.ireturn, 1) := by decide +kernel
set_option maxRecDepth 20000 in
theorem ggX3_release_X3_isNoFolder : GoodIn wsX3_release wsX3_isNoFolder := goodIn_r _ [8, 9, 10, 11, 7, 12, 30, 31, 32, 33, 34, 35, 36, 37, 38, 39, 40, 41, 42, 43, 44, 45, 46, 47, 48] (by decide +kernel) (by decide +kernel)
set_option maxRecDepth 20000 in
theorem gX3_release_X3_isNoFolder : GoodIn wsX3_release (wsV RX3 97 RX3 yX3_isNoFolder wsX3_isNoFolder) := goodIn_app (goodIn_of _ (by decide +kernel)) ggX3_release_X3_isNoFolder
set_option maxRecDepth 20000 in
theorem ggX3_release_X3_fails : GoodIn wsX3_release wsX3_fails := goodIn_r _ [16, 17, 30, 31, 32, 33, 34, 35, 36, 37, 38, 39, 40, 41, 42, 43, 44, 45, 46, 47, 48] (by decide +kernel) (by decide +kernel)
set_option maxRecDepth 20000 in
theorem gX3_release_X3_fails : GoodIn wsX3_release (wsV RX3 67 RX3 yX3_fails wsX3_fails) := goodIn_app (goodIn_of _ (by decide +kernel)) ggX3_release_X3_fails
set_option maxRecDepth 20000 in
theorem ggX3_release_X3_keeperOf : GoodIn wsX3_release wsX3_keeperOf := goodIn_ca (goodIn_r _ [21, 3, 22, 1, 2, 23, 24, 25, 7, 26, 27, 28, 29, 30, 31, 32, 33, 34, 35, 36, 37, 38, 39, 40, 41, 42, 43, 44, 45, 46, 47, 48] (by decide +kernel) (by decide +kernel)) (goodIn_sub (fun _ h => List.mem_cons_of_mem _ (List.mem_append_right _ h)) (by decide +kernel))
set_option maxRecDepth 20000 in
theorem gX3_release_X3_keeperOf : GoodIn wsX3_release (wsV RX3 126 RX3 yX3_keeperOf wsX3_keeperOf) := goodIn_app (goodIn_of _ (by decide +kernel)) ggX3_release_X3_keeperOf
theorem dX3_release_0 : decode cX3_release 0 = .ok (.aload_n 0, 1) := by decide +kernel
theorem dX3_release_1 : decode cX3_release 1 = .ok (.aload_n 0, 1) := by decide +kernel
theorem dX3_release_2 : decode cX3_release 2 = .ok (.iload_n 1, 1) := by decide +kernel
theorem dX3_release_3 : decode cX3_release 3 = .ok (.invokevirtual 97, 3) := by decide +kernel
theorem dX3_release_6 : decode cX3_release 6 = .ok (.ifCond .eq 7, 3) := by decide +kernel
theorem dX3_release_9 : decode cX3_release 9 = .ok (.iconst 1, 1) := by decide +kernel
theorem dX3_release_10 : decode cX3_release 10 = .ok (.goto 17, 3) := by decide +kernel
theorem dX3_release_13 : decode cX3_release 13 = .ok (.aload_n 0, 1) := by decide +kernel
theorem dX3_release_14 : decode cX3_release 14 = .ok (.getfield 39, 3) := by decide +kernel
theorem dX3_release_17 : decode cX3_release 17 = .ok (.iload_n 1, 1) := by decide +kernel
theorem dX3_release_18 : decode cX3_release 18 = .ok (.baload, 1) := by decide +kernel
theorem dX3_release_19 : decode cX3_release 19 = .ok (.ifCond .eq 7, 3) := by decide +kernel
theorem dX3_release_22 : decode cX3_release 22 = .ok (.iconst 0, 1) := by decide +kernel
theorem dX3_release_23 : decode cX3_release 23 = .ok (.goto 4, 3) := by decide +kernel
theorem dX3_release_26 : decode cX3_release 26 = .ok (.iconst 2, 1) := by decide +kernel
theorem dX3_release_27 : decode cX3_release 27 = .ok (.invokevirtual 67, 3) := by decide +kernel
theorem dX3_release_30 : decode cX3_release 30 = .ok (.ifCond .eq 5, 3) := by decide +kernel
theorem dX3_release_33 : decode cX3_release 33 = .ok (.iconst 0, 1) := by decide +kernel
theorem dX3_release_34 : decode cX3_release 34 = .ok (.ireturn, 1) := by decide +kernel
theorem dX3_release_35 : decode cX3_release 35 = .ok (.aload_n 0, 1) := by decide +kernel
theorem dX3_release_36 : decode cX3_release 36 = .ok (.getfield 39, 3) := by decide +kernel
theorem dX3_release_39 : decode cX3_release 39 = .ok (.iload_n 1, 1) := by decide +kernel
theorem dX3_release_40 : decode cX3_release 40 = .ok (.iconst 0, 1) := by decide +kernel
theorem dX3_release_41 : decode cX3_release 41 = .ok (.bastore, 1) := by decide +kernel
theorem dX3_release_42 : decode cX3_release 42 = .ok (.aload_n 0, 1) := by decide +kernel
theorem dX3_release_43 : decode cX3_release 43 = .ok (.getfield 13, 3) := by decide +kernel
theorem dX3_release_46 : decode cX3_release 46 = .ok (.aload_n 0, 1) := by decide +kernel
theorem dX3_release_47 : decode cX3_release 47 = .ok (.getfield 30, 3) := by decide +kernel
theorem dX3_release_50 : decode cX3_release 50 = .ok (.iload_n 1, 1) := by decide +kernel
theorem dX3_release_51 : decode cX3_release 51 = .ok (.iaload, 1) := by decide +kernel
theorem dX3_release_52 : decode cX3_release 52 = .ok (.baload, 1) := by decide +kernel
theorem dX3_release_53 : decode cX3_release 53 = .ok (.ifCond .eq 14, 3) := by decide +kernel
theorem dX3_release_56 : decode cX3_release 56 = .ok (.aload_n 0, 1) := by decide +kernel
theorem dX3_release_57 : decode cX3_release 57 = .ok (.getfield 30, 3) := by decide +kernel
theorem dX3_release_60 : decode cX3_release 60 = .ok (.iload_n 1, 1) := by decide +kernel
theorem dX3_release_61 : decode cX3_release 61 = .ok (.aload_n 0, 1) := by decide +kernel
theorem dX3_release_62 : decode cX3_release 62 = .ok (.iload_n 1, 1) := by decide +kernel
theorem dX3_release_63 : decode cX3_release 63 = .ok (.invokevirtual 126, 3) := by decide +kernel
theorem dX3_release_66 : decode cX3_release 66 = .ok (.iastore, 1) := by decide +kernel
theorem dX3_release_67 : decode cX3_release 67 = .ok (.aload_n 0, 1) := by decide +kernel
theorem dX3_release_68 : decode cX3_release 68 = .ok (.getfield 30, 3) := by decide +kernel
theorem dX3_release_71 : decode cX3_release 71 = .ok (.iload_n 1, 1) := by decide +kernel
theorem dX3_release_72 : decode cX3_release 72 = .ok (.iaload, 1) := by decide +kernel
theorem dX3_release_73 : decode cX3_release 73 = .ok (.ireturn, 1) := by decide +kernel
set_option maxRecDepth 20000 in
theorem ggX3_pass_X3_in : GoodIn wsX3_pass wsX3_in := goodIn_r _ [7] (by decide +kernel) (by decide +kernel)
set_option maxRecDepth 20000 in
theorem gX3_pass_X3_in : GoodIn wsX3_pass (va_wsS RX3 57 yX3_in wsX3_in) := goodIn_app (goodIn_of _ (by decide +kernel)) ggX3_pass_X3_in
set_option maxRecDepth 20000 in
theorem ggX3_pass_X3_fails : GoodIn wsX3_pass wsX3_fails := goodIn_r _ [11, 12, 13, 14, 15, 16, 17, 18, 19, 20, 21, 22, 23, 24, 25, 26, 27, 28, 29, 30, 31] (by decide +kernel) (by decide +kernel)
set_option maxRecDepth 20000 in
theorem gX3_pass_X3_fails : GoodIn wsX3_pass (wsV RX3 67 RX3 yX3_fails wsX3_fails) := goodIn_app (goodIn_of _ (by decide +kernel)) ggX3_pass_X3_fails
theorem dX3_pass_0 : decode cX3_pass 0 = .ok (.aload_n 0, 1) := by decide +kernel
theorem dX3_pass_1 : decode cX3_pass 1 = .ok (.iload_n 1, 1) := by decide +kernel
theorem dX3_pass_2 : decode cX3_pass 2 = .ok (.iconst 1, 1) := by decide +kernel
theorem dX3_pass_3 : decode cX3_pass 3 = .ok (.bipush 99, 2) := by decide +kernel
theorem dX3_pass_5 : decode cX3_pass 5 = .ok (.invokestatic 57, 3) := by decide +kernel
theorem dX3_pass_8 : decode cX3_pass 8 = .ok (.ifCond .eq 19, 3) := by decide +kernel
theorem dX3_pass_11 : decode cX3_pass 11 = .ok (.aload_n 0, 1) := by decide +kernel
theorem dX3_pass_12 : decode cX3_pass 12 = .ok (.getfield 74, 3) := by decide +kernel
theorem dX3_pass_15 : decode cX3_pass 15 = .ok (.iload_n 1, 1) := by decide +kernel
theorem dX3_pass_16 : decode cX3_pass 16 = .ok (.iadd, 1) := by decide +kernel
theorem dX3_pass_17 : decode cX3_pass 17 = .ok (.sipush 999, 3) := by decide +kernel
theorem dX3_pass_20 : decode cX3_pass 20 = .ok (.if_icmp .gt 7, 3) := by decide +kernel
theorem dX3_pass_23 : decode cX3_pass 23 = .ok (.iconst 0, 1) := by decide +kernel
theorem dX3_pass_24 : decode cX3_pass 24 = .ok (.goto 4, 3) := by decide +kernel
theorem dX3_pass_27 : decode cX3_pass 27 = .ok (.iconst 1, 1) := by decide +kernel
theorem dX3_pass_28 : decode cX3_pass 28 = .ok (.invokevirtual 67, 3) := by decide +kernel
theorem dX3_pass_31 : decode cX3_pass 31 = .ok (.ifCond .eq 5, 3) := by decide +kernel
theorem dX3_pass_34 : decode cX3_pass 34 = .ok (.iconst 0, 1) := by decide +kernel
theorem dX3_pass_35 : decode cX3_pass 35 = .ok (.ireturn, 1) := by decide +kernel
theorem dX3_pass_36 : decode cX3_pass 36 = .ok (.aload_n 0, 1) := by decide +kernel
theorem dX3_pass_37 : decode cX3_pass 37 = .ok (.dup, 1) := by decide +kernel
theorem dX3_pass_38 : decode cX3_pass 38 = .ok (.getfield 74, 3) := by decide +kernel
theorem dX3_pass_41 : decode cX3_pass 41 = .ok (.iload_n 1, 1) := by decide +kernel
theorem dX3_pass_42 : decode cX3_pass 42 = .ok (.iadd, 1) := by decide +kernel
theorem dX3_pass_43 : decode cX3_pass 43 = .ok (.putfield 74, 3) := by decide +kernel
theorem dX3_pass_46 : decode cX3_pass 46 = .ok (.iconst 0, 1) := by decide +kernel
theorem dX3_pass_47 : decode cX3_pass 47 = .ok (.istore_n 2, 1) := by decide +kernel
theorem dX3_pass_48 : decode cX3_pass 48 = .ok (.iconst 0, 1) := by decide +kernel
theorem dX3_pass_49 : decode cX3_pass 49 = .ok (.istore_n 3, 1) := by decide +kernel
theorem dX3_pass_50 : decode cX3_pass 50 = .ok (.iload_n 3, 1) := by decide +kernel
theorem dX3_pass_51 : decode cX3_pass 51 = .ok (.bipush 60, 2) := by decide +kernel
theorem dX3_pass_53 : decode cX3_pass 53 = .ok (.if_icmp .ge 44, 3) := by decide +kernel
theorem dX3_pass_56 : decode cX3_pass 56 = .ok (.aload_n 0, 1) := by decide +kernel
theorem dX3_pass_57 : decode cX3_pass 57 = .ok (.getfield 21, 3) := by decide +kernel
theorem dX3_pass_60 : decode cX3_pass 60 = .ok (.iload_n 3, 1) := by decide +kernel
theorem dX3_pass_61 : decode cX3_pass 61 = .ok (.iaload, 1) := by decide +kernel
theorem dX3_pass_62 : decode cX3_pass 62 = .ok (.ifCond .eq 29, 3) := by decide +kernel
theorem dX3_pass_65 : decode cX3_pass 65 = .ok (.aload_n 0, 1) := by decide +kernel
theorem dX3_pass_66 : decode cX3_pass 66 = .ok (.getfield 21, 3) := by decide +kernel
theorem dX3_pass_69 : decode cX3_pass 69 = .ok (.iload_n 3, 1) := by decide +kernel
theorem dX3_pass_70 : decode cX3_pass 70 = .ok (.iaload, 1) := by decide +kernel
theorem dX3_pass_71 : decode cX3_pass 71 = .ok (.aload_n 0, 1) := by decide +kernel
theorem dX3_pass_72 : decode cX3_pass 72 = .ok (.getfield 74, 3) := by decide +kernel
theorem dX3_pass_75 : decode cX3_pass 75 = .ok (.if_icmp .le 6, 3) := by decide +kernel
theorem dX3_pass_78 : decode cX3_pass 78 = .ok (.goto 13, 3) := by decide +kernel
theorem dX3_pass_81 : decode cX3_pass 81 = .ok (.aload_n 0, 1) := by decide +kernel
theorem dX3_pass_82 : decode cX3_pass 82 = .ok (.getfield 21, 3) := by decide +kernel
theorem dX3_pass_85 : decode cX3_pass 85 = .ok (.iload_n 3, 1) := by decide +kernel
theorem dX3_pass_86 : decode cX3_pass 86 = .ok (.iconst 0, 1) := by decide +kernel
theorem dX3_pass_87 : decode cX3_pass 87 = .ok (.iastore, 1) := by decide +kernel
theorem dX3_pass_88 : decode cX3_pass 88 = .ok (.iinc 2 1, 3) := by decide +kernel
theorem dX3_pass_91 : decode cX3_pass 91 = .ok (.iinc 3 1, 3) := by decide +kernel
theorem dX3_pass_94 : decode cX3_pass 94 = .ok (.goto (-44), 3) := by decide +kernel
theorem dX3_pass_97 : decode cX3_pass 97 = .ok (.iconst 0, 1) := by decide +kernel
theorem dX3_pass_98 : decode cX3_pass 98 = .ok (.istore_n 3, 1) := by decide +kernel
theorem dX3_pass_99 : decode cX3_pass 99 = .ok (.iload_n 3, 1) := by decide +kernel
theorem dX3_pass_100 : decode cX3_pass 100 = .ok (.bipush 36, 2) := by decide +kernel
theorem dX3_pass_102 : decode cX3_pass 102 = .ok (.if_icmp .ge 44, 3) := by decide +kernel
theorem dX3_pass_105 : decode cX3_pass 105 = .ok (.aload_n 0, 1) := by decide +kernel
theorem dX3_pass_106 : decode cX3_pass 106 = .ok (.getfield 24, 3) := by decide +kernel
theorem dX3_pass_109 : decode cX3_pass 109 = .ok (.iload_n 3, 1) := by decide +kernel
theorem dX3_pass_110 : decode cX3_pass 110 = .ok (.iaload, 1) := by decide +kernel
theorem dX3_pass_111 : decode cX3_pass 111 = .ok (.ifCond .eq 29, 3) := by decide +kernel
theorem dX3_pass_114 : decode cX3_pass 114 = .ok (.aload_n 0, 1) := by decide +kernel
theorem dX3_pass_115 : decode cX3_pass 115 = .ok (.getfield 24, 3) := by decide +kernel
theorem dX3_pass_118 : decode cX3_pass 118 = .ok (.iload_n 3, 1) := by decide +kernel
theorem dX3_pass_119 : decode cX3_pass 119 = .ok (.iaload, 1) := by decide +kernel
theorem dX3_pass_120 : decode cX3_pass 120 = .ok (.aload_n 0, 1) := by decide +kernel
theorem dX3_pass_121 : decode cX3_pass 121 = .ok (.getfield 74, 3) := by decide +kernel
theorem dX3_pass_124 : decode cX3_pass 124 = .ok (.if_icmp .le 6, 3) := by decide +kernel
theorem dX3_pass_127 : decode cX3_pass 127 = .ok (.goto 13, 3) := by decide +kernel
theorem dX3_pass_130 : decode cX3_pass 130 = .ok (.aload_n 0, 1) := by decide +kernel
theorem dX3_pass_131 : decode cX3_pass 131 = .ok (.getfield 24, 3) := by decide +kernel
theorem dX3_pass_134 : decode cX3_pass 134 = .ok (.iload_n 3, 1) := by decide +kernel
theorem dX3_pass_135 : decode cX3_pass 135 = .ok (.iconst 0, 1) := by decide +kernel
theorem dX3_pass_136 : decode cX3_pass 136 = .ok (.iastore, 1) := by decide +kernel
theorem dX3_pass_137 : decode cX3_pass 137 = .ok (.iinc 2 1, 3) := by decide +kernel
theorem dX3_pass_140 : decode cX3_pass 140 = .ok (.iinc 3 1, 3) := by decide +kernel
theorem dX3_pass_143 : decode cX3_pass 143 = .ok (.goto (-44), 3) := by decide +kernel
theorem dX3_pass_146 : decode cX3_pass 146 = .ok (.iload_n 2, 1) := by decide +kernel
theorem dX3_pass_147 : decode cX3_pass 147 = .ok (.ireturn, 1) := by decide +kernel
set_option maxRecDepth 20000 in
theorem ggX3_day_X3_tells : GoodIn wsX3_day wsX3_tells := goodIn_r _ [6, 7, 8, 9, 10, 11, 12, 13, 14, 15, 16, 17, 18, 19, 20, 21, 22, 23, 24, 25, 26] (by decide +kernel) (by decide +kernel)
set_option maxRecDepth 20000 in
theorem gX3_day_X3_tells : GoodIn wsX3_day (wsV RX3 133 RX3 yX3_tells wsX3_tells) := goodIn_app (goodIn_of _ (by decide +kernel)) ggX3_day_X3_tells
theorem dX3_day_0 : decode cX3_day 0 = .ok (.aload_n 0, 1) := by decide +kernel
theorem dX3_day_1 : decode cX3_day 1 = .ok (.aload_n 0, 1) := by decide +kernel
theorem dX3_day_2 : decode cX3_day 2 = .ok (.getfield 74, 3) := by decide +kernel
theorem dX3_day_5 : decode cX3_day 5 = .ok (.invokevirtual 133, 3) := by decide +kernel
theorem dX3_day_8 : decode cX3_day 8 = .ok (.ireturn, 1) := by decide +kernel
theorem dX3_actives_0 : decode cX3_actives 0 = .ok (.iconst 0, 1) := by decide +kernel
theorem dX3_actives_1 : decode cX3_actives 1 = .ok (.istore_n 1, 1) := by decide +kernel
theorem dX3_actives_2 : decode cX3_actives 2 = .ok (.iconst 0, 1) := by decide +kernel
theorem dX3_actives_3 : decode cX3_actives 3 = .ok (.istore_n 2, 1) := by decide +kernel
theorem dX3_actives_4 : decode cX3_actives 4 = .ok (.iload_n 2, 1) := by decide +kernel
theorem dX3_actives_5 : decode cX3_actives 5 = .ok (.aload_n 0, 1) := by decide +kernel
theorem dX3_actives_6 : decode cX3_actives 6 = .ok (.getfield 7, 3) := by decide +kernel
theorem dX3_actives_9 : decode cX3_actives 9 = .ok (.if_icmp .ge 26, 3) := by decide +kernel
theorem dX3_actives_12 : decode cX3_actives 12 = .ok (.iload_n 1, 1) := by decide +kernel
theorem dX3_actives_13 : decode cX3_actives 13 = .ok (.aload_n 0, 1) := by decide +kernel
theorem dX3_actives_14 : decode cX3_actives 14 = .ok (.getfield 13, 3) := by decide +kernel
theorem dX3_actives_17 : decode cX3_actives 17 = .ok (.iload_n 2, 1) := by decide +kernel
theorem dX3_actives_18 : decode cX3_actives 18 = .ok (.baload, 1) := by decide +kernel
theorem dX3_actives_19 : decode cX3_actives 19 = .ok (.ifCond .eq 7, 3) := by decide +kernel
theorem dX3_actives_22 : decode cX3_actives 22 = .ok (.iconst 0, 1) := by decide +kernel
theorem dX3_actives_23 : decode cX3_actives 23 = .ok (.goto 4, 3) := by decide +kernel
theorem dX3_actives_26 : decode cX3_actives 26 = .ok (.iconst 1, 1) := by decide +kernel
theorem dX3_actives_27 : decode cX3_actives 27 = .ok (.iadd, 1) := by decide +kernel
theorem dX3_actives_28 : decode cX3_actives 28 = .ok (.istore_n 1, 1) := by decide +kernel
theorem dX3_actives_29 : decode cX3_actives 29 = .ok (.iinc 2 1, 3) := by decide +kernel
theorem dX3_actives_32 : decode cX3_actives 32 = .ok (.goto (-28), 3) := by decide +kernel
theorem dX3_actives_35 : decode cX3_actives 35 = .ok (.iload_n 1, 1) := by decide +kernel
theorem dX3_actives_36 : decode cX3_actives 36 = .ok (.ireturn, 1) := by decide +kernel
set_option maxRecDepth 20000 in
theorem ggX3_active_X3_actives : GoodIn wsX3_active wsX3_actives := goodIn_ca (goodIn_r _ [5, 6, 7, 13, 14, 15, 16, 17, 18, 19, 20, 21, 22, 23, 24, 25, 26, 27, 28, 29, 30, 31] (by decide +kernel) (by decide +kernel)) (goodIn_sub (fun _ h => List.mem_cons_of_mem _ (List.mem_append_right _ h)) (by decide +kernel))
set_option maxRecDepth 20000 in
theorem gX3_active_X3_actives : GoodIn wsX3_active (wsV RX3 136 RX3 yX3_actives wsX3_actives) := goodIn_app (goodIn_of _ (by decide +kernel)) ggX3_active_X3_actives
set_option maxRecDepth 20000 in
theorem ggX3_active_X3_tells : GoodIn wsX3_active wsX3_tells := goodIn_r _ [11, 12, 13, 14, 15, 16, 17, 18, 19, 20, 21, 22, 23, 24, 25, 26, 27, 28, 29, 30, 31] (by decide +kernel) (by decide +kernel)
set_option maxRecDepth 20000 in
theorem gX3_active_X3_tells : GoodIn wsX3_active (wsV RX3 133 RX3 yX3_tells wsX3_tells) := goodIn_app (goodIn_of _ (by decide +kernel)) ggX3_active_X3_tells
theorem dX3_active_0 : decode cX3_active 0 = .ok (.aload_n 0, 1) := by decide +kernel
theorem dX3_active_1 : decode cX3_active 1 = .ok (.aload_n 0, 1) := by decide +kernel
theorem dX3_active_2 : decode cX3_active 2 = .ok (.invokevirtual 136, 3) := by decide +kernel
theorem dX3_active_5 : decode cX3_active 5 = .ok (.invokevirtual 133, 3) := by decide +kernel
theorem dX3_active_8 : decode cX3_active 8 = .ok (.ireturn, 1) := by decide +kernel
set_option maxRecDepth 20000 in
theorem ggX3_openShare_X3_fails : GoodIn wsX3_openShare wsX3_fails := goodIn_r _ [7, 8, 39, 40, 41, 42, 43, 44, 45, 46, 47, 48, 49, 50, 51, 52, 53, 54, 55, 56, 57] (by decide +kernel) (by decide +kernel)
set_option maxRecDepth 20000 in
theorem gX3_openShare_X3_fails : GoodIn wsX3_openShare (wsV RX3 67 RX3 yX3_fails wsX3_fails) := goodIn_app (goodIn_of _ (by decide +kernel)) ggX3_openShare_X3_fails
set_option maxRecDepth 20000 in
theorem ggX3_openShare_X3_rightOf : GoodIn wsX3_openShare wsX3_rightOf := goodIn_ca (goodIn_r _ [12, 13, 14, 15, 16, 17, 18, 19, 20, 21, 22, 23, 6, 24, 25, 26, 27, 28, 29, 30, 31, 32, 33, 34, 39, 40, 41, 42, 43, 44, 45, 46, 47, 48, 49, 50, 51, 52, 53, 54, 55, 56, 57] (by decide +kernel) (by decide +kernel)) (goodIn_sub (fun _ h => List.mem_cons_of_mem _ (List.mem_append_right _ h)) (by decide +kernel))
set_option maxRecDepth 20000 in
theorem gX3_openShare_X3_rightOf : GoodIn wsX3_openShare (wsV RX3 107 RX3 yX3_rightOf wsX3_rightOf) := goodIn_app (goodIn_of _ (by decide +kernel)) ggX3_openShare_X3_rightOf
set_option maxRecDepth 20000 in
theorem ggX3_openShare_X3_actives : GoodIn wsX3_openShare wsX3_actives := goodIn_ca (goodIn_r _ [38, 2, 13, 39, 40, 41, 42, 43, 44, 45, 46, 47, 48, 49, 50, 51, 52, 53, 54, 55, 56, 57] (by decide +kernel) (by decide +kernel)) (goodIn_sub (fun _ h => List.mem_cons_of_mem _ (List.mem_append_right _ h)) (by decide +kernel))
set_option maxRecDepth 20000 in
theorem gX3_openShare_X3_actives : GoodIn wsX3_openShare (wsV RX3 136 RX3 yX3_actives wsX3_actives) := goodIn_app (goodIn_of _ (by decide +kernel)) ggX3_openShare_X3_actives
theorem dX3_openShare_0 : decode cX3_openShare 0 = .ok (.aload_n 0, 1) := by decide +kernel
theorem dX3_openShare_1 : decode cX3_openShare 1 = .ok (.aload_n 0, 1) := by decide +kernel
theorem dX3_openShare_2 : decode cX3_openShare 2 = .ok (.getfield 64, 3) := by decide +kernel
theorem dX3_openShare_5 : decode cX3_openShare 5 = .ok (.ifCond .ne 7, 3) := by decide +kernel
theorem dX3_openShare_8 : decode cX3_openShare 8 = .ok (.iconst 1, 1) := by decide +kernel
theorem dX3_openShare_9 : decode cX3_openShare 9 = .ok (.goto 4, 3) := by decide +kernel
theorem dX3_openShare_12 : decode cX3_openShare 12 = .ok (.iconst 0, 1) := by decide +kernel
theorem dX3_openShare_13 : decode cX3_openShare 13 = .ok (.invokevirtual 67, 3) := by decide +kernel
theorem dX3_openShare_16 : decode cX3_openShare 16 = .ok (.ifCond .eq 5, 3) := by decide +kernel
theorem dX3_openShare_19 : decode cX3_openShare 19 = .ok (.fconst 0, 1) := by decide +kernel
theorem dX3_openShare_20 : decode cX3_openShare 20 = .ok (.freturn, 1) := by decide +kernel
theorem dX3_openShare_21 : decode cX3_openShare 21 = .ok (.iconst 0, 1) := by decide +kernel
theorem dX3_openShare_22 : decode cX3_openShare 22 = .ok (.istore_n 1, 1) := by decide +kernel
theorem dX3_openShare_23 : decode cX3_openShare 23 = .ok (.iconst 0, 1) := by decide +kernel
theorem dX3_openShare_24 : decode cX3_openShare 24 = .ok (.istore_n 2, 1) := by decide +kernel
theorem dX3_openShare_25 : decode cX3_openShare 25 = .ok (.iload_n 2, 1) := by decide +kernel
theorem dX3_openShare_26 : decode cX3_openShare 26 = .ok (.aload_n 0, 1) := by decide +kernel
theorem dX3_openShare_27 : decode cX3_openShare 27 = .ok (.getfield 7, 3) := by decide +kernel
theorem dX3_openShare_30 : decode cX3_openShare 30 = .ok (.if_icmp .ge 42, 3) := by decide +kernel
theorem dX3_openShare_33 : decode cX3_openShare 33 = .ok (.iconst 0, 1) := by decide +kernel
theorem dX3_openShare_34 : decode cX3_openShare 34 = .ok (.istore_n 3, 1) := by decide +kernel
theorem dX3_openShare_35 : decode cX3_openShare 35 = .ok (.iload_n 3, 1) := by decide +kernel
theorem dX3_openShare_36 : decode cX3_openShare 36 = .ok (.aload_n 0, 1) := by decide +kernel
theorem dX3_openShare_37 : decode cX3_openShare 37 = .ok (.getfield 64, 3) := by decide +kernel
theorem dX3_openShare_40 : decode cX3_openShare 40 = .ok (.if_icmp .ge 26, 3) := by decide +kernel
theorem dX3_openShare_43 : decode cX3_openShare 43 = .ok (.iload_n 1, 1) := by decide +kernel
theorem dX3_openShare_44 : decode cX3_openShare 44 = .ok (.aload_n 0, 1) := by decide +kernel
theorem dX3_openShare_45 : decode cX3_openShare 45 = .ok (.iload_n 2, 1) := by decide +kernel
theorem dX3_openShare_46 : decode cX3_openShare 46 = .ok (.iload_n 3, 1) := by decide +kernel
theorem dX3_openShare_47 : decode cX3_openShare 47 = .ok (.invokevirtual 107, 3) := by decide +kernel
theorem dX3_openShare_50 : decode cX3_openShare 50 = .ok (.ifCond .le 7, 3) := by decide +kernel
theorem dX3_openShare_53 : decode cX3_openShare 53 = .ok (.iconst 1, 1) := by decide +kernel
theorem dX3_openShare_54 : decode cX3_openShare 54 = .ok (.goto 4, 3) := by decide +kernel
theorem dX3_openShare_57 : decode cX3_openShare 57 = .ok (.iconst 0, 1) := by decide +kernel
theorem dX3_openShare_58 : decode cX3_openShare 58 = .ok (.iadd, 1) := by decide +kernel
theorem dX3_openShare_59 : decode cX3_openShare 59 = .ok (.istore_n 1, 1) := by decide +kernel
theorem dX3_openShare_60 : decode cX3_openShare 60 = .ok (.iinc 3 1, 3) := by decide +kernel
theorem dX3_openShare_63 : decode cX3_openShare 63 = .ok (.goto (-28), 3) := by decide +kernel
theorem dX3_openShare_66 : decode cX3_openShare 66 = .ok (.iinc 2 1, 3) := by decide +kernel
theorem dX3_openShare_69 : decode cX3_openShare 69 = .ok (.goto (-44), 3) := by decide +kernel
theorem dX3_openShare_72 : decode cX3_openShare 72 = .ok (.iload_n 1, 1) := by decide +kernel
theorem dX3_openShare_73 : decode cX3_openShare 73 = .ok (.i2f, 1) := by decide +kernel
theorem dX3_openShare_74 : decode cX3_openShare 74 = .ok (.aload_n 0, 1) := by decide +kernel
theorem dX3_openShare_75 : decode cX3_openShare 75 = .ok (.invokevirtual 136, 3) := by decide +kernel
theorem dX3_openShare_78 : decode cX3_openShare 78 = .ok (.aload_n 0, 1) := by decide +kernel
theorem dX3_openShare_79 : decode cX3_openShare 79 = .ok (.getfield 64, 3) := by decide +kernel
theorem dX3_openShare_82 : decode cX3_openShare 82 = .ok (.imul, 1) := by decide +kernel
theorem dX3_openShare_83 : decode cX3_openShare 83 = .ok (.i2f, 1) := by decide +kernel
theorem dX3_openShare_84 : decode cX3_openShare 84 = .ok (.fdiv, 1) := by decide +kernel
theorem dX3_openShare_85 : decode cX3_openShare 85 = .ok (.freturn, 1) := by decide +kernel
set_option maxRecDepth 20000 in
theorem ggX3_meanOwned_X3_fails : GoodIn wsX3_meanOwned wsX3_fails := goodIn_r _ [9, 10, 11, 12, 13, 14, 15, 16, 17, 18, 19, 20, 21, 22, 23, 24, 25, 26, 27, 28, 29] (by decide +kernel) (by decide +kernel)
set_option maxRecDepth 20000 in
theorem gX3_meanOwned_X3_fails : GoodIn wsX3_meanOwned (wsV RX3 67 RX3 yX3_fails wsX3_fails) := goodIn_app (goodIn_of _ (by decide +kernel)) ggX3_meanOwned_X3_fails
theorem dX3_meanOwned_0 : decode cX3_meanOwned 0 = .ok (.iconst 0, 1) := by decide +kernel
theorem dX3_meanOwned_1 : decode cX3_meanOwned 1 = .ok (.istore_n 1, 1) := by decide +kernel
theorem dX3_meanOwned_2 : decode cX3_meanOwned 2 = .ok (.iconst 0, 1) := by decide +kernel
theorem dX3_meanOwned_3 : decode cX3_meanOwned 3 = .ok (.istore_n 2, 1) := by decide +kernel
theorem dX3_meanOwned_4 : decode cX3_meanOwned 4 = .ok (.iconst 0, 1) := by decide +kernel
theorem dX3_meanOwned_5 : decode cX3_meanOwned 5 = .ok (.istore_n 3, 1) := by decide +kernel
theorem dX3_meanOwned_6 : decode cX3_meanOwned 6 = .ok (.iload_n 3, 1) := by decide +kernel
theorem dX3_meanOwned_7 : decode cX3_meanOwned 7 = .ok (.aload_n 0, 1) := by decide +kernel
theorem dX3_meanOwned_8 : decode cX3_meanOwned 8 = .ok (.getfield 7, 3) := by decide +kernel
theorem dX3_meanOwned_11 : decode cX3_meanOwned 11 = .ok (.if_icmp .ge 78, 3) := by decide +kernel
theorem dX3_meanOwned_14 : decode cX3_meanOwned 14 = .ok (.iconst 0, 1) := by decide +kernel
theorem dX3_meanOwned_15 : decode cX3_meanOwned 15 = .ok (.istore 4, 2) := by decide +kernel
theorem dX3_meanOwned_17 : decode cX3_meanOwned 17 = .ok (.iconst 0, 1) := by decide +kernel
theorem dX3_meanOwned_18 : decode cX3_meanOwned 18 = .ok (.istore 5, 2) := by decide +kernel
theorem dX3_meanOwned_20 : decode cX3_meanOwned 20 = .ok (.iload 5, 2) := by decide +kernel
theorem dX3_meanOwned_22 : decode cX3_meanOwned 22 = .ok (.aload_n 0, 1) := by decide +kernel
theorem dX3_meanOwned_23 : decode cX3_meanOwned 23 = .ok (.getfield 64, 3) := by decide +kernel
theorem dX3_meanOwned_26 : decode cX3_meanOwned 26 = .ok (.if_icmp .ge 39, 3) := by decide +kernel
theorem dX3_meanOwned_29 : decode cX3_meanOwned 29 = .ok (.iload 4, 2) := by decide +kernel
theorem dX3_meanOwned_31 : decode cX3_meanOwned 31 = .ok (.aload_n 0, 1) := by decide +kernel
theorem dX3_meanOwned_32 : decode cX3_meanOwned 32 = .ok (.getfield 30, 3) := by decide +kernel
theorem dX3_meanOwned_35 : decode cX3_meanOwned 35 = .ok (.iload 5, 2) := by decide +kernel
theorem dX3_meanOwned_37 : decode cX3_meanOwned 37 = .ok (.iaload, 1) := by decide +kernel
theorem dX3_meanOwned_38 : decode cX3_meanOwned 38 = .ok (.iload_n 3, 1) := by decide +kernel
theorem dX3_meanOwned_39 : decode cX3_meanOwned 39 = .ok (.if_icmp .ne 16, 3) := by decide +kernel
theorem dX3_meanOwned_42 : decode cX3_meanOwned 42 = .ok (.aload_n 0, 1) := by decide +kernel
theorem dX3_meanOwned_43 : decode cX3_meanOwned 43 = .ok (.getfield 13, 3) := by decide +kernel
theorem dX3_meanOwned_46 : decode cX3_meanOwned 46 = .ok (.iload_n 3, 1) := by decide +kernel
theorem dX3_meanOwned_47 : decode cX3_meanOwned 47 = .ok (.baload, 1) := by decide +kernel
theorem dX3_meanOwned_48 : decode cX3_meanOwned 48 = .ok (.ifCond .ne 7, 3) := by decide +kernel
theorem dX3_meanOwned_51 : decode cX3_meanOwned 51 = .ok (.iconst 1, 1) := by decide +kernel
theorem dX3_meanOwned_52 : decode cX3_meanOwned 52 = .ok (.goto 4, 3) := by decide +kernel
theorem dX3_meanOwned_55 : decode cX3_meanOwned 55 = .ok (.iconst 0, 1) := by decide +kernel
theorem dX3_meanOwned_56 : decode cX3_meanOwned 56 = .ok (.iadd, 1) := by decide +kernel
theorem dX3_meanOwned_57 : decode cX3_meanOwned 57 = .ok (.istore 4, 2) := by decide +kernel
theorem dX3_meanOwned_59 : decode cX3_meanOwned 59 = .ok (.iinc 5 1, 3) := by decide +kernel
theorem dX3_meanOwned_62 : decode cX3_meanOwned 62 = .ok (.goto (-42), 3) := by decide +kernel
theorem dX3_meanOwned_65 : decode cX3_meanOwned 65 = .ok (.iload_n 1, 1) := by decide +kernel
theorem dX3_meanOwned_66 : decode cX3_meanOwned 66 = .ok (.iload 4, 2) := by decide +kernel
theorem dX3_meanOwned_68 : decode cX3_meanOwned 68 = .ok (.iadd, 1) := by decide +kernel
theorem dX3_meanOwned_69 : decode cX3_meanOwned 69 = .ok (.istore_n 1, 1) := by decide +kernel
theorem dX3_meanOwned_70 : decode cX3_meanOwned 70 = .ok (.iload_n 2, 1) := by decide +kernel
theorem dX3_meanOwned_71 : decode cX3_meanOwned 71 = .ok (.iload 4, 2) := by decide +kernel
theorem dX3_meanOwned_73 : decode cX3_meanOwned 73 = .ok (.ifCond .le 7, 3) := by decide +kernel
theorem dX3_meanOwned_76 : decode cX3_meanOwned 76 = .ok (.iconst 1, 1) := by decide +kernel
theorem dX3_meanOwned_77 : decode cX3_meanOwned 77 = .ok (.goto 4, 3) := by decide +kernel
theorem dX3_meanOwned_80 : decode cX3_meanOwned 80 = .ok (.iconst 0, 1) := by decide +kernel
theorem dX3_meanOwned_81 : decode cX3_meanOwned 81 = .ok (.iadd, 1) := by decide +kernel
theorem dX3_meanOwned_82 : decode cX3_meanOwned 82 = .ok (.istore_n 2, 1) := by decide +kernel
theorem dX3_meanOwned_83 : decode cX3_meanOwned 83 = .ok (.iinc 3 1, 3) := by decide +kernel
theorem dX3_meanOwned_86 : decode cX3_meanOwned 86 = .ok (.goto (-80), 3) := by decide +kernel
theorem dX3_meanOwned_89 : decode cX3_meanOwned 89 = .ok (.aload_n 0, 1) := by decide +kernel
theorem dX3_meanOwned_90 : decode cX3_meanOwned 90 = .ok (.iload_n 2, 1) := by decide +kernel
theorem dX3_meanOwned_91 : decode cX3_meanOwned 91 = .ok (.ifCond .ne 7, 3) := by decide +kernel
theorem dX3_meanOwned_94 : decode cX3_meanOwned 94 = .ok (.iconst 1, 1) := by decide +kernel
theorem dX3_meanOwned_95 : decode cX3_meanOwned 95 = .ok (.goto 4, 3) := by decide +kernel
theorem dX3_meanOwned_98 : decode cX3_meanOwned 98 = .ok (.iconst 0, 1) := by decide +kernel
theorem dX3_meanOwned_99 : decode cX3_meanOwned 99 = .ok (.invokevirtual 67, 3) := by decide +kernel
theorem dX3_meanOwned_102 : decode cX3_meanOwned 102 = .ok (.ifCond .eq 7, 3) := by decide +kernel
theorem dX3_meanOwned_105 : decode cX3_meanOwned 105 = .ok (.dconst 0, 1) := by decide +kernel
theorem dX3_meanOwned_106 : decode cX3_meanOwned 106 = .ok (.goto 8, 3) := by decide +kernel
theorem dX3_meanOwned_109 : decode cX3_meanOwned 109 = .ok (.iload_n 1, 1) := by decide +kernel
theorem dX3_meanOwned_110 : decode cX3_meanOwned 110 = .ok (.i2d, 1) := by decide +kernel
theorem dX3_meanOwned_111 : decode cX3_meanOwned 111 = .ok (.iload_n 2, 1) := by decide +kernel
theorem dX3_meanOwned_112 : decode cX3_meanOwned 112 = .ok (.i2d, 1) := by decide +kernel
theorem dX3_meanOwned_113 : decode cX3_meanOwned 113 = .ok (.ddiv, 1) := by decide +kernel
theorem dX3_meanOwned_114 : decode cX3_meanOwned 114 = .ok (.dreturn, 1) := by decide +kernel
