theorem dX2_heaviestIn_26 : decode cX2_heaviestIn 26 = .ok (.iload_n 2, 1) := by decide +kernel
theorem dX2_heaviestIn_27 : decode cX2_heaviestIn 27 = .ok (.if_icmp .le 12, 3) := by decide +kernel
theorem dX2_heaviestIn_30 : decode cX2_heaviestIn 30 = .ok (.aload_n 0, 1) := by decide +kernel
theorem dX2_heaviestIn_31 : decode cX2_heaviestIn 31 = .ok (.getfield 13, 3) := by decide +kernel
theorem dX2_heaviestIn_34 : decode cX2_heaviestIn 34 = .ok (.iload_n 3, 1) := by decide +kernel
theorem dX2_heaviestIn_35 : decode cX2_heaviestIn 35 = .ok (.iaload, 1) := by decide +kernel
theorem dX2_heaviestIn_36 : decode cX2_heaviestIn 36 = .ok (.goto 4, 3) := by decide +kernel
theorem dX2_heaviestIn_39 : decode cX2_heaviestIn 39 = .ok (.iload_n 2, 1) := by decide +kernel
theorem dX2_heaviestIn_40 : decode cX2_heaviestIn 40 = .ok (.istore_n 2, 1) := by decide +kernel
theorem dX2_heaviestIn_41 : decode cX2_heaviestIn 41 = .ok (.iinc 3 1, 3) := by decide +kernel
theorem dX2_heaviestIn_44 : decode cX2_heaviestIn 44 = .ok (.goto (-40), 3) := by decide +kernel
theorem dX2_heaviestIn_47 : decode cX2_heaviestIn 47 = .ok (.iload_n 2, 1) := by decide +kernel
theorem dX2_heaviestIn_48 : decode cX2_heaviestIn 48 = .ok (.ireturn, 1) := by decide +kernel
set_option maxRecDepth 20000 in
theorem ggX2_heavier_X2_isChute : GoodIn wsX2_heavier wsX2_isChute := goodIn_r _ [5, 6, 7, 4, 8] (by decide +kernel) (by decide +kernel)
set_option maxRecDepth 20000 in
theorem gX2_heavier_X2_isChute : GoodIn wsX2_heavier (va_wsS RX2 74 yX2_isChute wsX2_isChute) := goodIn_app (goodIn_of _ (by decide +kernel)) ggX2_heavier_X2_isChute
set_option maxRecDepth 20000 in
theorem ggX2_heavier_X2_heaviestIn : GoodIn wsX2_heavier wsX2_heaviestIn := goodIn_r _ [12, 13, 14, 18, 19, 20, 21, 22, 23, 24, 25, 26, 27, 28, 29, 30, 31, 32, 33, 34, 35, 36, 37] (by decide +kernel) (by decide +kernel)
set_option maxRecDepth 20000 in
theorem gX2_heavier_X2_heaviestIn : GoodIn wsX2_heavier (wsV RX2 126 RX2 yX2_heaviestIn wsX2_heaviestIn) := goodIn_app (goodIn_of _ (by decide +kernel)) ggX2_heavier_X2_heaviestIn
set_option maxRecDepth 20000 in
theorem ggX2_heavier_X2_signsOf : GoodIn wsX2_heavier wsX2_signsOf := goodIn_r _ [17] (by decide +kernel) (by decide +kernel)
set_option maxRecDepth 20000 in
theorem gX2_heavier_X2_signsOf : GoodIn wsX2_heavier (va_wsS RX2 47 yX2_signsOf wsX2_signsOf) := goodIn_app (goodIn_of _ (by decide +kernel)) ggX2_heavier_X2_signsOf
theorem dX2_heavier_0 : decode cX2_heavier 0 = .ok (.aload_n 0, 1) := by decide +kernel
theorem dX2_heavier_1 : decode cX2_heavier 1 = .ok (.iload_n 1, 1) := by decide +kernel
theorem dX2_heavier_2 : decode cX2_heavier 2 = .ok (.invokestatic 74, 3) := by decide +kernel
theorem dX2_heavier_5 : decode cX2_heavier 5 = .ok (.ifCond .eq 14, 3) := by decide +kernel
theorem dX2_heavier_8 : decode cX2_heavier 8 = .ok (.iload_n 2, 1) := by decide +kernel
theorem dX2_heavier_9 : decode cX2_heavier 9 = .ok (.invokestatic 74, 3) := by decide +kernel
theorem dX2_heavier_12 : decode cX2_heavier 12 = .ok (.ifCond .eq 7, 3) := by decide +kernel
theorem dX2_heavier_15 : decode cX2_heavier 15 = .ok (.iconst 0, 1) := by decide +kernel
theorem dX2_heavier_16 : decode cX2_heavier 16 = .ok (.goto 4, 3) := by decide +kernel
theorem dX2_heavier_19 : decode cX2_heavier 19 = .ok (.iconst 1, 1) := by decide +kernel
theorem dX2_heavier_20 : decode cX2_heavier 20 = .ok (.putfield 38, 3) := by decide +kernel
theorem dX2_heavier_23 : decode cX2_heavier 23 = .ok (.aload_n 0, 1) := by decide +kernel
theorem dX2_heavier_24 : decode cX2_heavier 24 = .ok (.getfield 38, 3) := by decide +kernel
theorem dX2_heavier_27 : decode cX2_heavier 27 = .ok (.ifCond .eq 5, 3) := by decide +kernel
theorem dX2_heavier_30 : decode cX2_heavier 30 = .ok (.iconst 0, 1) := by decide +kernel
theorem dX2_heavier_31 : decode cX2_heavier 31 = .ok (.ireturn, 1) := by decide +kernel
theorem dX2_heavier_32 : decode cX2_heavier 32 = .ok (.aload_n 0, 1) := by decide +kernel
theorem dX2_heavier_33 : decode cX2_heavier 33 = .ok (.iload_n 1, 1) := by decide +kernel
theorem dX2_heavier_34 : decode cX2_heavier 34 = .ok (.invokevirtual 126, 3) := by decide +kernel
theorem dX2_heavier_37 : decode cX2_heavier 37 = .ok (.aload_n 0, 1) := by decide +kernel
theorem dX2_heavier_38 : decode cX2_heavier 38 = .ok (.iload_n 2, 1) := by decide +kernel
theorem dX2_heavier_39 : decode cX2_heavier 39 = .ok (.invokevirtual 126, 3) := by decide +kernel
theorem dX2_heavier_42 : decode cX2_heavier 42 = .ok (.invokestatic 47, 3) := by decide +kernel
theorem dX2_heavier_45 : decode cX2_heavier 45 = .ok (.istore_n 3, 1) := by decide +kernel
theorem dX2_heavier_46 : decode cX2_heavier 46 = .ok (.iload_n 3, 1) := by decide +kernel
theorem dX2_heavier_47 : decode cX2_heavier 47 = .ok (.iconst 4, 1) := by decide +kernel
theorem dX2_heavier_48 : decode cX2_heavier 48 = .ok (.iand, 1) := by decide +kernel
theorem dX2_heavier_49 : decode cX2_heavier 49 = .ok (.ifCond .eq 7, 3) := by decide +kernel
theorem dX2_heavier_52 : decode cX2_heavier 52 = .ok (.iconst 1, 1) := by decide +kernel
theorem dX2_heavier_53 : decode cX2_heavier 53 = .ok (.goto 25, 3) := by decide +kernel
theorem dX2_heavier_56 : decode cX2_heavier 56 = .ok (.iload_n 3, 1) := by decide +kernel
theorem dX2_heavier_57 : decode cX2_heavier 57 = .ok (.iconst 1, 1) := by decide +kernel
theorem dX2_heavier_58 : decode cX2_heavier 58 = .ok (.iand, 1) := by decide +kernel
theorem dX2_heavier_59 : decode cX2_heavier 59 = .ok (.ifCond .eq 7, 3) := by decide +kernel
theorem dX2_heavier_62 : decode cX2_heavier 62 = .ok (.iconst (-1), 1) := by decide +kernel
theorem dX2_heavier_63 : decode cX2_heavier 63 = .ok (.goto 15, 3) := by decide +kernel
theorem dX2_heavier_66 : decode cX2_heavier 66 = .ok (.iload_n 3, 1) := by decide +kernel
theorem dX2_heavier_67 : decode cX2_heavier 67 = .ok (.bipush 16, 2) := by decide +kernel
theorem dX2_heavier_69 : decode cX2_heavier 69 = .ok (.iand, 1) := by decide +kernel
theorem dX2_heavier_70 : decode cX2_heavier 70 = .ok (.ifCond .eq 7, 3) := by decide +kernel
theorem dX2_heavier_73 : decode cX2_heavier 73 = .ok (.iconst 0, 1) := by decide +kernel
theorem dX2_heavier_74 : decode cX2_heavier 74 = .ok (.goto 4, 3) := by decide +kernel
theorem dX2_heavier_77 : decode cX2_heavier 77 = .ok (.iconst 2, 1) := by decide +kernel
theorem dX2_heavier_78 : decode cX2_heavier 78 = .ok (.ireturn, 1) := by decide +kernel
set_option maxRecDepth 20000 in
theorem ggX2_alike_X2_isChute : GoodIn wsX2_alike wsX2_isChute := goodIn_r _ [7, 8, 9, 6, 10] (by decide +kernel) (by decide +kernel)
set_option maxRecDepth 20000 in
theorem gX2_alike_X2_isChute : GoodIn wsX2_alike (va_wsS RX2 74 yX2_isChute wsX2_isChute) := goodIn_app (goodIn_of _ (by decide +kernel)) ggX2_alike_X2_isChute
set_option maxRecDepth 20000 in
theorem ggX2_alike_X2_parcelAt : GoodIn wsX2_alike wsX2_parcelAt := goodIn_r _ [14, 15, 16, 17, 18, 6, 19, 20, 21, 22, 23, 2, 24, 31, 32, 33, 34, 35, 36, 37, 38, 39, 40, 41, 42, 43, 44, 45, 46, 47, 48, 49, 50] (by decide +kernel) (by decide +kernel)
set_option maxRecDepth 20000 in
theorem gX2_alike_X2_parcelAt : GoodIn wsX2_alike (wsV RX2 120 RX2 yX2_parcelAt wsX2_parcelAt) := goodIn_app (goodIn_of _ (by decide +kernel)) ggX2_alike_X2_parcelAt
set_option maxRecDepth 20000 in
theorem ggX2_alike_X2_holds : GoodIn wsX2_alike wsX2_holds := goodIn_r _ [27, 28, 29, 6, 30] (by decide +kernel) (by decide +kernel)
set_option maxRecDepth 20000 in
theorem gX2_alike_X2_holds : GoodIn wsX2_alike (va_wsS RX2 51 yX2_holds wsX2_holds) := goodIn_app (goodIn_of _ (by decide +kernel)) ggX2_alike_X2_holds
theorem dX2_alike_0 : decode cX2_alike 0 = .ok (.aload_n 0, 1) := by decide +kernel
theorem dX2_alike_1 : decode cX2_alike 1 = .ok (.iload_n 1, 1) := by decide +kernel
theorem dX2_alike_2 : decode cX2_alike 2 = .ok (.invokestatic 74, 3) := by decide +kernel
theorem dX2_alike_5 : decode cX2_alike 5 = .ok (.ifCond .eq 14, 3) := by decide +kernel
theorem dX2_alike_8 : decode cX2_alike 8 = .ok (.iload_n 2, 1) := by decide +kernel
theorem dX2_alike_9 : decode cX2_alike 9 = .ok (.invokestatic 74, 3) := by decide +kernel
theorem dX2_alike_12 : decode cX2_alike 12 = .ok (.ifCond .eq 7, 3) := by decide +kernel
theorem dX2_alike_15 : decode cX2_alike 15 = .ok (.iconst 0, 1) := by decide +kernel
theorem dX2_alike_16 : decode cX2_alike 16 = .ok (.goto 4, 3) := by decide +kernel
theorem dX2_alike_19 : decode cX2_alike 19 = .ok (.iconst 1, 1) := by decide +kernel
theorem dX2_alike_20 : decode cX2_alike 20 = .ok (.putfield 38, 3) := by decide +kernel
theorem dX2_alike_23 : decode cX2_alike 23 = .ok (.aload_n 0, 1) := by decide +kernel
theorem dX2_alike_24 : decode cX2_alike 24 = .ok (.getfield 38, 3) := by decide +kernel
theorem dX2_alike_27 : decode cX2_alike 27 = .ok (.ifCond .eq 5, 3) := by decide +kernel
theorem dX2_alike_30 : decode cX2_alike 30 = .ok (.iconst 0, 1) := by decide +kernel
theorem dX2_alike_31 : decode cX2_alike 31 = .ok (.ireturn, 1) := by decide +kernel
theorem dX2_alike_32 : decode cX2_alike 32 = .ok (.iconst 0, 1) := by decide +kernel
theorem dX2_alike_33 : decode cX2_alike 33 = .ok (.istore_n 3, 1) := by decide +kernel
theorem dX2_alike_34 : decode cX2_alike 34 = .ok (.iload_n 3, 1) := by decide +kernel
theorem dX2_alike_35 : decode cX2_alike 35 = .ok (.bipush 12, 2) := by decide +kernel
theorem dX2_alike_37 : decode cX2_alike 37 = .ok (.if_icmp .ge 83, 3) := by decide +kernel
theorem dX2_alike_40 : decode cX2_alike 40 = .ok (.aload_n 0, 1) := by decide +kernel
theorem dX2_alike_41 : decode cX2_alike 41 = .ok (.iload_n 1, 1) := by decide +kernel
theorem dX2_alike_42 : decode cX2_alike 42 = .ok (.iload_n 3, 1) := by decide +kernel
theorem dX2_alike_43 : decode cX2_alike 43 = .ok (.invokevirtual 120, 3) := by decide +kernel
theorem dX2_alike_46 : decode cX2_alike 46 = .ok (.istore 4, 2) := by decide +kernel
theorem dX2_alike_48 : decode cX2_alike 48 = .ok (.aload_n 0, 1) := by decide +kernel
theorem dX2_alike_49 : decode cX2_alike 49 = .ok (.iload_n 2, 1) := by decide +kernel
theorem dX2_alike_50 : decode cX2_alike 50 = .ok (.iload_n 3, 1) := by decide +kernel
theorem dX2_alike_51 : decode cX2_alike 51 = .ok (.invokevirtual 120, 3) := by decide +kernel
theorem dX2_alike_54 : decode cX2_alike 54 = .ok (.istore 5, 2) := by decide +kernel
theorem dX2_alike_56 : decode cX2_alike 56 = .ok (.iload 4, 2) := by decide +kernel
theorem dX2_alike_58 : decode cX2_alike 58 = .ok (.iconst (-1), 1) := by decide +kernel
theorem dX2_alike_59 : decode cX2_alike 59 = .ok (.if_icmp .eq 53, 3) := by decide +kernel
theorem dX2_alike_62 : decode cX2_alike 62 = .ok (.iload 5, 2) := by decide +kernel
theorem dX2_alike_64 : decode cX2_alike 64 = .ok (.iconst (-1), 1) := by decide +kernel
theorem dX2_alike_65 : decode cX2_alike 65 = .ok (.if_icmp .eq 47, 3) := by decide +kernel
theorem dX2_alike_68 : decode cX2_alike 68 = .ok (.aload_n 0, 1) := by decide +kernel
theorem dX2_alike_69 : decode cX2_alike 69 = .ok (.getfield 13, 3) := by decide +kernel
theorem dX2_alike_72 : decode cX2_alike 72 = .ok (.iload 4, 2) := by decide +kernel
theorem dX2_alike_74 : decode cX2_alike 74 = .ok (.iaload, 1) := by decide +kernel
theorem dX2_alike_75 : decode cX2_alike 75 = .ok (.aload_n 0, 1) := by decide +kernel
theorem dX2_alike_76 : decode cX2_alike 76 = .ok (.getfield 13, 3) := by decide +kernel
theorem dX2_alike_79 : decode cX2_alike 79 = .ok (.iload 5, 2) := by decide +kernel
theorem dX2_alike_81 : decode cX2_alike 81 = .ok (.iaload, 1) := by decide +kernel
theorem dX2_alike_82 : decode cX2_alike 82 = .ok (.bipush 16, 2) := by decide +kernel
theorem dX2_alike_84 : decode cX2_alike 84 = .ok (.invokestatic 51, 3) := by decide +kernel
theorem dX2_alike_87 : decode cX2_alike 87 = .ok (.ifCond .eq 25, 3) := by decide +kernel
theorem dX2_alike_90 : decode cX2_alike 90 = .ok (.aload_n 0, 1) := by decide +kernel
theorem dX2_alike_91 : decode cX2_alike 91 = .ok (.getfield 16, 3) := by decide +kernel
theorem dX2_alike_94 : decode cX2_alike 94 = .ok (.iload 4, 2) := by decide +kernel
theorem dX2_alike_96 : decode cX2_alike 96 = .ok (.iaload, 1) := by decide +kernel
theorem dX2_alike_97 : decode cX2_alike 97 = .ok (.aload_n 0, 1) := by decide +kernel
theorem dX2_alike_98 : decode cX2_alike 98 = .ok (.getfield 16, 3) := by decide +kernel
theorem dX2_alike_101 : decode cX2_alike 101 = .ok (.iload 5, 2) := by decide +kernel
theorem dX2_alike_103 : decode cX2_alike 103 = .ok (.iaload, 1) := by decide +kernel
theorem dX2_alike_104 : decode cX2_alike 104 = .ok (.bipush 16, 2) := by decide +kernel
theorem dX2_alike_106 : decode cX2_alike 106 = .ok (.invokestatic 51, 3) := by decide +kernel
theorem dX2_alike_109 : decode cX2_alike 109 = .ok (.ifCond .ne 5, 3) := by decide +kernel
theorem dX2_alike_112 : decode cX2_alike 112 = .ok (.iload_n 3, 1) := by decide +kernel
theorem dX2_alike_113 : decode cX2_alike 113 = .ok (.ireturn, 1) := by decide +kernel
theorem dX2_alike_114 : decode cX2_alike 114 = .ok (.iinc 3 1, 3) := by decide +kernel
theorem dX2_alike_117 : decode cX2_alike 117 = .ok (.goto (-83), 3) := by decide +kernel
theorem dX2_alike_120 : decode cX2_alike 120 = .ok (.bipush 12, 2) := by decide +kernel
theorem dX2_alike_122 : decode cX2_alike 122 = .ok (.ireturn, 1) := by decide +kernel
set_option maxRecDepth 20000 in
theorem ggX2_gauge_X2_isWithin : GoodIn wsX2_gauge wsX2_isWithin := goodIn_r _ [13] (by decide +kernel) (by decide +kernel)
set_option maxRecDepth 20000 in
theorem gX2_gauge_X2_isWithin : GoodIn wsX2_gauge (va_wsS RX2 42 yX2_isWithin wsX2_isWithin) := goodIn_app (goodIn_of _ (by decide +kernel)) ggX2_gauge_X2_isWithin
theorem dX2_gauge_0 : decode cX2_gauge 0 = .ok (.aload_n 0, 1) := by decide +kernel
theorem dX2_gauge_1 : decode cX2_gauge 1 = .ok (.iload_n 1, 1) := by decide +kernel
theorem dX2_gauge_2 : decode cX2_gauge 2 = .ok (.bipush 7, 2) := by decide +kernel
theorem dX2_gauge_4 : decode cX2_gauge 4 = .ok (.invokestatic 42, 3) := by decide +kernel
theorem dX2_gauge_7 : decode cX2_gauge 7 = .ok (.ifCond .eq 7, 3) := by decide +kernel
theorem dX2_gauge_10 : decode cX2_gauge 10 = .ok (.iconst 0, 1) := by decide +kernel
theorem dX2_gauge_11 : decode cX2_gauge 11 = .ok (.goto 4, 3) := by decide +kernel
theorem dX2_gauge_14 : decode cX2_gauge 14 = .ok (.iconst 1, 1) := by decide +kernel
theorem dX2_gauge_15 : decode cX2_gauge 15 = .ok (.putfield 38, 3) := by decide +kernel
theorem dX2_gauge_18 : decode cX2_gauge 18 = .ok (.iload_n 1, 1) := by decide +kernel
theorem dX2_gauge_19 : decode cX2_gauge 19 = .ok (.tableswitch 85 0 7 #[45, 50, 55, 60, 65, 70, 75, 80], 45) := by decide +kernel
theorem dX2_gauge_64 : decode cX2_gauge 64 = .ok (.aload_n 0, 1) := by decide +kernel
theorem dX2_gauge_65 : decode cX2_gauge 65 = .ok (.getfield 90, 3) := by decide +kernel
theorem dX2_gauge_68 : decode cX2_gauge 68 = .ok (.ireturn, 1) := by decide +kernel
theorem dX2_gauge_69 : decode cX2_gauge 69 = .ok (.aload_n 0, 1) := by decide +kernel
theorem dX2_gauge_70 : decode cX2_gauge 70 = .ok (.getfield 93, 3) := by decide +kernel
theorem dX2_gauge_73 : decode cX2_gauge 73 = .ok (.ireturn, 1) := by decide +kernel
theorem dX2_gauge_74 : decode cX2_gauge 74 = .ok (.aload_n 0, 1) := by decide +kernel
theorem dX2_gauge_75 : decode cX2_gauge 75 = .ok (.getfield 96, 3) := by decide +kernel
theorem dX2_gauge_78 : decode cX2_gauge 78 = .ok (.ireturn, 1) := by decide +kernel
theorem dX2_gauge_79 : decode cX2_gauge 79 = .ok (.aload_n 0, 1) := by decide +kernel
theorem dX2_gauge_80 : decode cX2_gauge 80 = .ok (.getfield 87, 3) := by decide +kernel
theorem dX2_gauge_83 : decode cX2_gauge 83 = .ok (.ireturn, 1) := by decide +kernel
theorem dX2_gauge_84 : decode cX2_gauge 84 = .ok (.aload_n 0, 1) := by decide +kernel
theorem dX2_gauge_85 : decode cX2_gauge 85 = .ok (.getfield 81, 3) := by decide +kernel
theorem dX2_gauge_88 : decode cX2_gauge 88 = .ok (.ireturn, 1) := by decide +kernel
theorem dX2_gauge_89 : decode cX2_gauge 89 = .ok (.aload_n 0, 1) := by decide +kernel
theorem dX2_gauge_90 : decode cX2_gauge 90 = .ok (.getfield 65, 3) := by decide +kernel
theorem dX2_gauge_93 : decode cX2_gauge 93 = .ok (.ireturn, 1) := by decide +kernel
theorem dX2_gauge_94 : decode cX2_gauge 94 = .ok (.aload_n 0, 1) := by decide +kernel
theorem dX2_gauge_95 : decode cX2_gauge 95 = .ok (.getfield 68, 3) := by decide +kernel
theorem dX2_gauge_98 : decode cX2_gauge 98 = .ok (.ireturn, 1) := by decide +kernel
theorem dX2_gauge_99 : decode cX2_gauge 99 = .ok (.aload_n 0, 1) := by decide +kernel
theorem dX2_gauge_100 : decode cX2_gauge 100 = .ok (.getfield 71, 3) := by decide +kernel
theorem dX2_gauge_103 : decode cX2_gauge 103 = .ok (.ireturn, 1) := by decide +kernel
theorem dX2_gauge_104 : decode cX2_gauge 104 = .ok (.iconst 0, 1) := by decide +kernel
theorem dX2_gauge_105 : decode cX2_gauge 105 = .ok (.ireturn, 1) := by decide +kernel
theorem dJ9_min_7cf53_0 : decode cJ9_min_7cf53 0 = .ok (.iload_n 0, 1) := by decide +kernel
theorem dJ9_min_7cf53_1 : decode cJ9_min_7cf53 1 = .ok (.iload_n 1, 1) := by decide +kernel
theorem dJ9_min_7cf53_2 : decode cJ9_min_7cf53 2 = .ok (.if_icmp .gt 7, 3) := by decide +kernel
theorem dJ9_min_7cf53_5 : decode cJ9_min_7cf53 5 = .ok (.iload_n 0, 1) := by decide +kernel
theorem dJ9_min_7cf53_6 : decode cJ9_min_7cf53 6 = .ok (.goto 4, 3) := by decide +kernel
theorem dJ9_min_7cf53_9 : decode cJ9_min_7cf53 9 = .ok (.iload_n 1, 1) := by decide +kernel
theorem dJ9_min_7cf53_10 : decode cJ9_min_7cf53 10 = .ok (.ireturn, 1) := by decide +kernel
set_option maxRecDepth 20000 in
theorem ggL_sort_X1_sort : GoodIn wsL_sort wsX1_sort := goodIn_ca (goodIn_ca (goodIn_ca (goodIn_r _ [8, 9, 10, 11, 12, 13, 14, 15, 16, 17, 7, 18, 19, 20, 21, 22, 23, 24, 25, 26, 27, 28, 29, 30, 31, 32, 33, 34, 35, 36, 37, 38, 39] (by decide +kernel) (by decide +kernel)) (goodIn_sub (fun _ h => List.mem_cons_of_mem _ (List.mem_append_left _ (List.mem_append_left _ (List.mem_append_right _ h)))) (by decide +kernel))) (goodIn_sub (fun _ h => List.mem_cons_of_mem _ (List.mem_append_left _ (List.mem_append_right _ h))) (by decide +kernel))) (goodIn_sub (fun _ h => List.mem_cons_of_mem _ (List.mem_append_right _ h)) (by decide +kernel))
set_option maxRecDepth 20000 in
theorem gL_sort_X1_sort : GoodIn wsL_sort (wsV RL 7 RX1 yX1_sort wsX1_sort) := goodIn_app (goodIn_of _ (by decide +kernel)) ggL_sort_X1_sort
theorem dL_sort_0 : decode cL_sort 0 = .ok (.aload_n 3, 1) := by decide +kernel
theorem dL_sort_1 : decode cL_sort 1 = .ok (.iconst 0, 1) := by decide +kernel
theorem dL_sort_2 : decode cL_sort 2 = .ok (.aload_n 0, 1) := by decide +kernel
theorem dL_sort_3 : decode cL_sort 3 = .ok (.iload_n 1, 1) := by decide +kernel
theorem dL_sort_4 : decode cL_sort 4 = .ok (.iload_n 2, 1) := by decide +kernel
theorem dL_sort_5 : decode cL_sort 5 = .ok (.invokevirtual 7, 3) := by decide +kernel
theorem dL_sort_8 : decode cL_sort 8 = .ok (.i2l, 1) := by decide +kernel
theorem dL_sort_9 : decode cL_sort 9 = .ok (.lastore, 1) := by decide +kernel
theorem dL_sort_10 : decode cL_sort 10 = .ok (.goto 15, 3) := by decide +kernel
theorem dL_sort_13 : decode cL_sort 13 = .ok (.astore 4, 2) := by decide +kernel
theorem dL_sort_15 : decode cL_sort 15 = .ok (.iconst 1, 1) := by decide +kernel
theorem dL_sort_16 : decode cL_sort 16 = .ok (.ireturn, 1) := by decide +kernel
theorem dL_sort_17 : decode cL_sort 17 = .ok (.astore 4, 2) := by decide +kernel
theorem dL_sort_19 : decode cL_sort 19 = .ok (.iconst 2, 1) := by decide +kernel
theorem dL_sort_20 : decode cL_sort 20 = .ok (.ireturn, 1) := by decide +kernel
theorem dL_sort_21 : decode cL_sort 21 = .ok (.astore 4, 2) := by decide +kernel
theorem dL_sort_23 : decode cL_sort 23 = .ok (.iconst 3, 1) := by decide +kernel
theorem dL_sort_24 : decode cL_sort 24 = .ok (.ireturn, 1) := by decide +kernel
theorem dL_sort_25 : decode cL_sort 25 = .ok (.iconst 0, 1) := by decide +kernel
theorem dL_sort_26 : decode cL_sort 26 = .ok (.ireturn, 1) := by decide +kernel
set_option maxRecDepth 20000 in
theorem ggL_limits_X1_limits : GoodIn wsL_limits wsX1_limits := goodIn_ca (goodIn_ca (goodIn_ca (goodIn_r _ [8, 9, 10, 11, 12, 13, 14, 15, 16, 7, 17, 18, 19, 20, 21, 22, 23, 24, 25, 26, 27, 28, 29, 30, 31, 32, 33, 34, 35, 36, 37, 38, 39, 40, 41, 42, 43, 44, 45, 46, 47, 48, 49, 50, 51, 52, 53, 54, 55, 56] (by decide +kernel) (by decide +kernel)) (goodIn_sub (fun _ h => List.mem_cons_of_mem _ (List.mem_append_left _ (List.mem_append_left _ (List.mem_append_right _ h)))) (by decide +kernel))) (goodIn_sub (fun _ h => List.mem_cons_of_mem _ (List.mem_append_left _ (List.mem_append_right _ h))) (by decide +kernel))) (goodIn_sub (fun _ h => List.mem_cons_of_mem _ (List.mem_append_right _ h)) (by decide +kernel))
set_option maxRecDepth 20000 in
theorem gL_limits_X1_limits : GoodIn wsL_limits (wsV RL 19 RX1 yX1_limits wsX1_limits) := goodIn_app (goodIn_of _ (by decide +kernel)) ggL_limits_X1_limits
theorem dL_limits_0 : decode cL_limits 0 = .ok (.aload 5, 2) := by decide +kernel
theorem dL_limits_2 : decode cL_limits 2 = .ok (.iconst 0, 1) := by decide +kernel
theorem dL_limits_3 : decode cL_limits 3 = .ok (.aload_n 0, 1) := by decide +kernel
theorem dL_limits_4 : decode cL_limits 4 = .ok (.iload_n 1, 1) := by decide +kernel
theorem dL_limits_5 : decode cL_limits 5 = .ok (.iload_n 2, 1) := by decide +kernel
theorem dL_limits_6 : decode cL_limits 6 = .ok (.iload_n 3, 1) := by decide +kernel
theorem dL_limits_7 : decode cL_limits 7 = .ok (.iload 4, 2) := by decide +kernel
theorem dL_limits_9 : decode cL_limits 9 = .ok (.invokevirtual 19, 3) := by decide +kernel
theorem dL_limits_12 : decode cL_limits 12 = .ok (.i2l, 1) := by decide +kernel
theorem dL_limits_13 : decode cL_limits 13 = .ok (.lastore, 1) := by decide +kernel
theorem dL_limits_14 : decode cL_limits 14 = .ok (.goto 15, 3) := by decide +kernel
theorem dL_limits_17 : decode cL_limits 17 = .ok (.astore 6, 2) := by decide +kernel
theorem dL_limits_19 : decode cL_limits 19 = .ok (.iconst 1, 1) := by decide +kernel
theorem dL_limits_20 : decode cL_limits 20 = .ok (.ireturn, 1) := by decide +kernel
theorem dL_limits_21 : decode cL_limits 21 = .ok (.astore 6, 2) := by decide +kernel
theorem dL_limits_23 : decode cL_limits 23 = .ok (.iconst 2, 1) := by decide +kernel
theorem dL_limits_24 : decode cL_limits 24 = .ok (.ireturn, 1) := by decide +kernel
theorem dL_limits_25 : decode cL_limits 25 = .ok (.astore 6, 2) := by decide +kernel
theorem dL_limits_27 : decode cL_limits 27 = .ok (.iconst 3, 1) := by decide +kernel
theorem dL_limits_28 : decode cL_limits 28 = .ok (.ireturn, 1) := by decide +kernel
theorem dL_limits_29 : decode cL_limits 29 = .ok (.iconst 0, 1) := by decide +kernel
theorem dL_limits_30 : decode cL_limits 30 = .ok (.ireturn, 1) := by decide +kernel
set_option maxRecDepth 20000 in
theorem ggL_shut_X1_shut : GoodIn wsL_shut wsX1_shut := goodIn_ca (goodIn_r _ [6, 7, 8, 9, 10, 5, 11, 12, 13, 14, 15, 16, 17, 18, 19, 20, 21, 22, 23, 24, 25, 26, 27, 28, 29, 30, 31, 32] (by decide +kernel) (by decide +kernel)) (goodIn_sub (fun _ h => List.mem_cons_of_mem _ (List.mem_append_right _ h)) (by decide +kernel))
set_option maxRecDepth 20000 in
theorem gL_shut_X1_shut : GoodIn wsL_shut (wsV RL 23 RX1 yX1_shut wsX1_shut) := goodIn_app (goodIn_of _ (by decide +kernel)) ggL_shut_X1_shut
theorem dL_shut_0 : decode cL_shut 0 = .ok (.aload_n 3, 1) := by decide +kernel
theorem dL_shut_1 : decode cL_shut 1 = .ok (.iconst 0, 1) := by decide +kernel
theorem dL_shut_2 : decode cL_shut 2 = .ok (.aload_n 0, 1) := by decide +kernel
theorem dL_shut_3 : decode cL_shut 3 = .ok (.iload_n 1, 1) := by decide +kernel
theorem dL_shut_4 : decode cL_shut 4 = .ok (.iload_n 2, 1) := by decide +kernel
theorem dL_shut_5 : decode cL_shut 5 = .ok (.invokevirtual 23, 3) := by decide +kernel
theorem dL_shut_8 : decode cL_shut 8 = .ok (.ifCond .eq 7, 3) := by decide +kernel
theorem dL_shut_11 : decode cL_shut 11 = .ok (.lconst 1, 1) := by decide +kernel
theorem dL_shut_12 : decode cL_shut 12 = .ok (.goto 4, 3) := by decide +kernel
theorem dL_shut_15 : decode cL_shut 15 = .ok (.lconst 0, 1) := by decide +kernel
theorem dL_shut_16 : decode cL_shut 16 = .ok (.lastore, 1) := by decide +kernel
theorem dL_shut_17 : decode cL_shut 17 = .ok (.goto 7, 3) := by decide +kernel
theorem dL_shut_20 : decode cL_shut 20 = .ok (.astore 4, 2) := by decide +kernel
theorem dL_shut_22 : decode cL_shut 22 = .ok (.iconst 1, 1) := by decide +kernel
theorem dL_shut_23 : decode cL_shut 23 = .ok (.ireturn, 1) := by decide +kernel
theorem dL_shut_24 : decode cL_shut 24 = .ok (.iconst 0, 1) := by decide +kernel
theorem dL_shut_25 : decode cL_shut 25 = .ok (.ireturn, 1) := by decide +kernel
set_option maxRecDepth 20000 in
theorem ggL_send_X1_send : GoodIn wsL_send wsX1_send := goodIn_ca (goodIn_r _ [6, 7, 8, 9, 10, 5, 11, 12, 13, 14, 15, 16, 17, 18, 19, 20, 21, 22, 23, 24, 25, 26, 27, 28, 29, 30, 31, 32, 33, 34, 35, 36, 37, 38, 39, 40, 41, 42, 43, 44, 45, 46, 47, 48, 49, 50, 51, 52, 53, 54, 55, 56, 57, 58, 59, 60, 61, 62, 63, 64, 65, 66, 67, 68, 69, 70, 71, 72, 73, 74, 75, 76, 77, 78] (by decide +kernel) (by decide +kernel)) (goodIn_sub (fun _ h => List.mem_cons_of_mem _ (List.mem_append_right _ h)) (by decide +kernel))
set_option maxRecDepth 20000 in
theorem gL_send_X1_send : GoodIn wsL_send (wsV RL 27 RX1 yX1_send wsX1_send) := goodIn_app (goodIn_of _ (by decide +kernel)) ggL_send_X1_send
theorem dL_send_0 : decode cL_send 0 = .ok (.aload_n 3, 1) := by decide +kernel
theorem dL_send_1 : decode cL_send 1 = .ok (.iconst 0, 1) := by decide +kernel
theorem dL_send_2 : decode cL_send 2 = .ok (.aload_n 0, 1) := by decide +kernel
theorem dL_send_3 : decode cL_send 3 = .ok (.iload_n 1, 1) := by decide +kernel
theorem dL_send_4 : decode cL_send 4 = .ok (.iload_n 2, 1) := by decide +kernel
theorem dL_send_5 : decode cL_send 5 = .ok (.invokevirtual 27, 3) := by decide +kernel
theorem dL_send_8 : decode cL_send 8 = .ok (.i2l, 1) := by decide +kernel
theorem dL_send_9 : decode cL_send 9 = .ok (.lastore, 1) := by decide +kernel
theorem dL_send_10 : decode cL_send 10 = .ok (.goto 7, 3) := by decide +kernel
theorem dL_send_13 : decode cL_send 13 = .ok (.astore 4, 2) := by decide +kernel
theorem dL_send_15 : decode cL_send 15 = .ok (.iconst 1, 1) := by decide +kernel
theorem dL_send_16 : decode cL_send 16 = .ok (.ireturn, 1) := by decide +kernel
theorem dL_send_17 : decode cL_send 17 = .ok (.iconst 0, 1) := by decide +kernel
theorem dL_send_18 : decode cL_send 18 = .ok (.ireturn, 1) := by decide +kernel
set_option maxRecDepth 20000 in
theorem ggL_fits_X1_fits : GoodIn wsL_fits wsX1_fits := goodIn_ca (goodIn_r _ [6, 7, 8, 9, 5, 10, 11, 12, 13, 14, 15, 16, 17, 18, 19, 20, 21, 22, 23, 24, 25, 26, 27, 28, 29, 30, 31, 32, 33, 34, 35, 36, 37, 38, 39, 40, 41, 42, 43, 44, 45, 46, 47, 48] (by decide +kernel) (by decide +kernel)) (goodIn_sub (fun _ h => List.mem_cons_of_mem _ (List.mem_append_right _ h)) (by decide +kernel))
set_option maxRecDepth 20000 in
theorem gL_fits_X1_fits : GoodIn wsL_fits (wsV RL 30 RX1 yX1_fits wsX1_fits) := goodIn_app (goodIn_of _ (by decide +kernel)) ggL_fits_X1_fits
theorem dL_fits_0 : decode cL_fits 0 = .ok (.aload_n 3, 1) := by decide +kernel
theorem dL_fits_1 : decode cL_fits 1 = .ok (.iconst 0, 1) := by decide +kernel
theorem dL_fits_2 : decode cL_fits 2 = .ok (.aload_n 0, 1) := by decide +kernel
theorem dL_fits_3 : decode cL_fits 3 = .ok (.iload_n 1, 1) := by decide +kernel
theorem dL_fits_4 : decode cL_fits 4 = .ok (.iload_n 2, 1) := by decide +kernel
theorem dL_fits_5 : decode cL_fits 5 = .ok (.invokevirtual 30, 3) := by decide +kernel
theorem dL_fits_8 : decode cL_fits 8 = .ok (.i2l, 1) := by decide +kernel
theorem dL_fits_9 : decode cL_fits 9 = .ok (.lastore, 1) := by decide +kernel
theorem dL_fits_10 : decode cL_fits 10 = .ok (.goto 7, 3) := by decide +kernel
theorem dL_fits_13 : decode cL_fits 13 = .ok (.astore 4, 2) := by decide +kernel
theorem dL_fits_15 : decode cL_fits 15 = .ok (.iconst 1, 1) := by decide +kernel
theorem dL_fits_16 : decode cL_fits 16 = .ok (.ireturn, 1) := by decide +kernel
theorem dL_fits_17 : decode cL_fits 17 = .ok (.iconst 0, 1) := by decide +kernel
theorem dL_fits_18 : decode cL_fits 18 = .ok (.ireturn, 1) := by decide +kernel
set_option maxRecDepth 20000 in
theorem ggL_signs_X1_signs : GoodIn wsL_signs wsX1_signs := goodIn_ca (goodIn_ca (goodIn_r _ [7, 8, 9, 10, 11, 12, 13, 14, 15, 6, 16, 17, 18, 19, 20, 21, 22, 23, 24, 25, 26, 27, 28, 29, 30, 31, 32, 33, 34, 35, 36, 37, 38, 39, 40, 41, 42, 43, 44, 45, 46, 47] (by decide +kernel) (by decide +kernel)) (goodIn_sub (fun _ h => List.mem_cons_of_mem _ (List.mem_append_left _ (List.mem_append_right _ h))) (by decide +kernel))) (goodIn_sub (fun _ h => List.mem_cons_of_mem _ (List.mem_append_right _ h)) (by decide +kernel))
set_option maxRecDepth 20000 in
theorem gL_signs_X1_signs : GoodIn wsL_signs (wsV RL 33 RX1 yX1_signs wsX1_signs) := goodIn_app (goodIn_of _ (by decide +kernel)) ggL_signs_X1_signs
theorem dL_signs_0 : decode cL_signs 0 = .ok (.aload 4, 2) := by decide +kernel
theorem dL_signs_2 : decode cL_signs 2 = .ok (.iconst 0, 1) := by decide +kernel
theorem dL_signs_3 : decode cL_signs 3 = .ok (.aload_n 0, 1) := by decide +kernel
theorem dL_signs_4 : decode cL_signs 4 = .ok (.iload_n 1, 1) := by decide +kernel
theorem dL_signs_5 : decode cL_signs 5 = .ok (.iload_n 2, 1) := by decide +kernel
theorem dL_signs_6 : decode cL_signs 6 = .ok (.iload_n 3, 1) := by decide +kernel
theorem dL_signs_7 : decode cL_signs 7 = .ok (.invokevirtual 33, 3) := by decide +kernel
theorem dL_signs_10 : decode cL_signs 10 = .ok (.i2l, 1) := by decide +kernel
theorem dL_signs_11 : decode cL_signs 11 = .ok (.lastore, 1) := by decide +kernel
theorem dL_signs_12 : decode cL_signs 12 = .ok (.goto 11, 3) := by decide +kernel
theorem dL_signs_15 : decode cL_signs 15 = .ok (.astore 5, 2) := by decide +kernel
theorem dL_signs_17 : decode cL_signs 17 = .ok (.iconst 1, 1) := by decide +kernel
theorem dL_signs_18 : decode cL_signs 18 = .ok (.ireturn, 1) := by decide +kernel
theorem dL_signs_19 : decode cL_signs 19 = .ok (.astore 5, 2) := by decide +kernel
theorem dL_signs_21 : decode cL_signs 21 = .ok (.iconst 2, 1) := by decide +kernel
theorem dL_signs_22 : decode cL_signs 22 = .ok (.ireturn, 1) := by decide +kernel
theorem dL_signs_23 : decode cL_signs 23 = .ok (.iconst 0, 1) := by decide +kernel
theorem dL_signs_24 : decode cL_signs 24 = .ok (.ireturn, 1) := by decide +kernel
set_option maxRecDepth 20000 in
theorem ggL_chute_X1_chute : GoodIn wsL_chute wsX1_chute := goodIn_ca (goodIn_ca (goodIn_r _ [7, 8, 9, 10, 11, 12, 13, 14, 15, 16, 17, 18, 19, 20, 6, 21, 22, 23, 24, 25, 26, 27, 28, 29, 30, 31, 32, 33, 34, 35, 36, 37, 38, 39, 40, 41, 42, 43, 44, 45, 46, 47, 48, 49, 50, 51] (by decide +kernel) (by decide +kernel)) (goodIn_sub (fun _ h => List.mem_cons_of_mem _ (List.mem_append_left _ (List.mem_append_right _ h))) (by decide +kernel))) (goodIn_sub (fun _ h => List.mem_cons_of_mem _ (List.mem_append_right _ h)) (by decide +kernel))
set_option maxRecDepth 20000 in
theorem gL_chute_X1_chute : GoodIn wsL_chute (wsV RL 37 RX1 yX1_chute wsX1_chute) := goodIn_app (goodIn_of _ (by decide +kernel)) ggL_chute_X1_chute
theorem dL_chute_0 : decode cL_chute 0 = .ok (.aload_n 3, 1) := by decide +kernel
theorem dL_chute_1 : decode cL_chute 1 = .ok (.iconst 0, 1) := by decide +kernel
theorem dL_chute_2 : decode cL_chute 2 = .ok (.aload_n 0, 1) := by decide +kernel
theorem dL_chute_3 : decode cL_chute 3 = .ok (.iload_n 1, 1) := by decide +kernel
theorem dL_chute_4 : decode cL_chute 4 = .ok (.iload_n 2, 1) := by decide +kernel
theorem dL_chute_5 : decode cL_chute 5 = .ok (.invokevirtual 37, 3) := by decide +kernel
theorem dL_chute_8 : decode cL_chute 8 = .ok (.i2l, 1) := by decide +kernel
theorem dL_chute_9 : decode cL_chute 9 = .ok (.lastore, 1) := by decide +kernel
theorem dL_chute_10 : decode cL_chute 10 = .ok (.goto 11, 3) := by decide +kernel
theorem dL_chute_13 : decode cL_chute 13 = .ok (.astore 4, 2) := by decide +kernel
theorem dL_chute_15 : decode cL_chute 15 = .ok (.iconst 1, 1) := by decide +kernel
theorem dL_chute_16 : decode cL_chute 16 = .ok (.ireturn, 1) := by decide +kernel
theorem dL_chute_17 : decode cL_chute 17 = .ok (.astore 4, 2) := by decide +kernel
theorem dL_chute_19 : decode cL_chute 19 = .ok (.iconst 2, 1) := by decide +kernel
theorem dL_chute_20 : decode cL_chute 20 = .ok (.ireturn, 1) := by decide +kernel
theorem dL_chute_21 : decode cL_chute 21 = .ok (.iconst 0, 1) := by decide +kernel
theorem dL_chute_22 : decode cL_chute 22 = .ok (.ireturn, 1) := by decide +kernel
set_option maxRecDepth 20000 in
theorem ggL_weight_X1_weight : GoodIn wsL_weight wsX1_weight := goodIn_ca (goodIn_ca (goodIn_r _ [7, 8, 9, 10, 11, 6, 12, 13, 14, 15, 16, 17, 18, 19, 20, 21, 22, 23, 24, 25, 26, 27, 28, 29, 30, 31, 32, 33, 34, 35, 36, 37, 38, 39] (by decide +kernel) (by decide +kernel)) (goodIn_sub (fun _ h => List.mem_cons_of_mem _ (List.mem_append_left _ (List.mem_append_right _ h))) (by decide +kernel))) (goodIn_sub (fun _ h => List.mem_cons_of_mem _ (List.mem_append_right _ h)) (by decide +kernel))
set_option maxRecDepth 20000 in
theorem gL_weight_X1_weight : GoodIn wsL_weight (wsV RL 40 RX1 yX1_weight wsX1_weight) := goodIn_app (goodIn_of _ (by decide +kernel)) ggL_weight_X1_weight
theorem dL_weight_0 : decode cL_weight 0 = .ok (.aload_n 3, 1) := by decide +kernel
theorem dL_weight_1 : decode cL_weight 1 = .ok (.iconst 0, 1) := by decide +kernel
theorem dL_weight_2 : decode cL_weight 2 = .ok (.aload_n 0, 1) := by decide +kernel
theorem dL_weight_3 : decode cL_weight 3 = .ok (.iload_n 1, 1) := by decide +kernel
theorem dL_weight_4 : decode cL_weight 4 = .ok (.iload_n 2, 1) := by decide +kernel
theorem dL_weight_5 : decode cL_weight 5 = .ok (.invokevirtual 40, 3) := by decide +kernel
theorem dL_weight_8 : decode cL_weight 8 = .ok (.i2l, 1) := by decide +kernel
theorem dL_weight_9 : decode cL_weight 9 = .ok (.lastore, 1) := by decide +kernel
theorem dL_weight_10 : decode cL_weight 10 = .ok (.goto 11, 3) := by decide +kernel
theorem dL_weight_13 : decode cL_weight 13 = .ok (.astore 4, 2) := by decide +kernel
theorem dL_weight_15 : decode cL_weight 15 = .ok (.iconst 1, 1) := by decide +kernel
theorem dL_weight_16 : decode cL_weight 16 = .ok (.ireturn, 1) := by decide +kernel
theorem dL_weight_17 : decode cL_weight 17 = .ok (.astore 4, 2) := by decide +kernel
theorem dL_weight_19 : decode cL_weight 19 = .ok (.iconst 2, 1) := by decide +kernel
theorem dL_weight_20 : decode cL_weight 20 = .ok (.ireturn, 1) := by decide +kernel
theorem dL_weight_21 : decode cL_weight 21 = .ok (.iconst 0, 1) := by decide +kernel
theorem dL_weight_22 : decode cL_weight 22 = .ok (.ireturn, 1) := by decide +kernel
set_option maxRecDepth 20000 in
theorem ggL_girth_X1_girth : GoodIn wsL_girth wsX1_girth := goodIn_ca (goodIn_ca (goodIn_r _ [7, 8, 9, 10, 11, 6, 12, 13, 14, 15, 16, 17, 18, 19, 20, 21, 22, 23, 24, 25, 26, 27, 28, 29, 30, 31, 32, 33, 34, 35, 36, 37, 38, 39] (by decide +kernel) (by decide +kernel)) (goodIn_sub (fun _ h => List.mem_cons_of_mem _ (List.mem_append_left _ (List.mem_append_right _ h))) (by decide +kernel))) (goodIn_sub (fun _ h => List.mem_cons_of_mem _ (List.mem_append_right _ h)) (by decide +kernel))
set_option maxRecDepth 20000 in
theorem gL_girth_X1_girth : GoodIn wsL_girth (wsV RL 45 RX1 yX1_girth wsX1_girth) := goodIn_app (goodIn_of _ (by decide +kernel)) ggL_girth_X1_girth
theorem dL_girth_0 : decode cL_girth 0 = .ok (.aload_n 3, 1) := by decide +kernel
theorem dL_girth_1 : decode cL_girth 1 = .ok (.iconst 0, 1) := by decide +kernel
theorem dL_girth_2 : decode cL_girth 2 = .ok (.aload_n 0, 1) := by decide +kernel
theorem dL_girth_3 : decode cL_girth 3 = .ok (.iload_n 1, 1) := by decide +kernel
theorem dL_girth_4 : decode cL_girth 4 = .ok (.iload_n 2, 1) := by decide +kernel
theorem dL_girth_5 : decode cL_girth 5 = .ok (.invokevirtual 45, 3) := by decide +kernel
theorem dL_girth_8 : decode cL_girth 8 = .ok (.i2l, 1) := by decide +kernel
theorem dL_girth_9 : decode cL_girth 9 = .ok (.lastore, 1) := by decide +kernel
theorem dL_girth_10 : decode cL_girth 10 = .ok (.goto 11, 3) := by decide +kernel
theorem dL_girth_13 : decode cL_girth 13 = .ok (.astore 4, 2) := by decide +kernel
theorem dL_girth_15 : decode cL_girth 15 = .ok (.iconst 1, 1) := by decide +kernel
theorem dL_girth_16 : decode cL_girth 16 = .ok (.ireturn, 1) := by decide +kernel
theorem dL_girth_17 : decode cL_girth 17 = .ok (.astore 4, 2) := by decide +kernel
theorem dL_girth_19 : decode cL_girth 19 = .ok (.iconst 2, 1) := by decide +kernel
theorem dL_girth_20 : decode cL_girth 20 = .ok (.ireturn, 1) := by decide +kernel
theorem dL_girth_21 : decode cL_girth 21 = .ok (.iconst 0, 1) := by decide +kernel
theorem dL_girth_22 : decode cL_girth 22 = .ok (.ireturn, 1) := by decide +kernel
set_option maxRecDepth 20000 in
theorem ggL_below_X1_below : GoodIn wsL_below wsX1_below := goodIn_ca (goodIn_ca (goodIn_r _ [7, 8, 9, 10, 11, 12, 6, 13, 14, 15, 16, 17, 18, 19, 20, 21, 22, 23, 24, 25, 26, 27, 28, 29, 30, 31, 32, 33, 34, 35, 36, 37, 38, 39, 40, 41, 42, 43, 44, 45, 46, 47, 48, 49] (by decide +kernel) (by decide +kernel)) (goodIn_sub (fun _ h => List.mem_cons_of_mem _ (List.mem_append_left _ (List.mem_append_right _ h))) (by decide +kernel))) (goodIn_sub (fun _ h => List.mem_cons_of_mem _ (List.mem_append_right _ h)) (by decide +kernel))
set_option maxRecDepth 20000 in
theorem gL_below_X1_below : GoodIn wsL_below (wsV RL 48 RX1 yX1_below wsX1_below) := goodIn_app (goodIn_of _ (by decide +kernel)) ggL_below_X1_below
theorem dL_below_0 : decode cL_below 0 = .ok (.aload_n 3, 1) := by decide +kernel
theorem dL_below_1 : decode cL_below 1 = .ok (.iconst 0, 1) := by decide +kernel
theorem dL_below_2 : decode cL_below 2 = .ok (.aload_n 0, 1) := by decide +kernel
theorem dL_below_3 : decode cL_below 3 = .ok (.iload_n 1, 1) := by decide +kernel
theorem dL_below_4 : decode cL_below 4 = .ok (.iload_n 2, 1) := by decide +kernel
theorem dL_below_5 : decode cL_below 5 = .ok (.invokevirtual 48, 3) := by decide +kernel
theorem dL_below_8 : decode cL_below 8 = .ok (.i2l, 1) := by decide +kernel
theorem dL_below_9 : decode cL_below 9 = .ok (.lastore, 1) := by decide +kernel
theorem dL_below_10 : decode cL_below 10 = .ok (.goto 11, 3) := by decide +kernel
theorem dL_below_13 : decode cL_below 13 = .ok (.astore 4, 2) := by decide +kernel
theorem dL_below_15 : decode cL_below 15 = .ok (.iconst 1, 1) := by decide +kernel
theorem dL_below_16 : decode cL_below 16 = .ok (.ireturn, 1) := by decide +kernel
theorem dL_below_17 : decode cL_below 17 = .ok (.astore 4, 2) := by decide +kernel
theorem dL_below_19 : decode cL_below 19 = .ok (.iconst 2, 1) := by decide +kernel
theorem dL_below_20 : decode cL_below 20 = .ok (.ireturn, 1) := by decide +kernel
theorem dL_below_21 : decode cL_below 21 = .ok (.iconst 0, 1) := by decide +kernel
theorem dL_below_22 : decode cL_below 22 = .ok (.ireturn, 1) := by decide +kernel
set_option maxRecDepth 20000 in
theorem ggL_take_X1_take : GoodIn wsL_take wsX1_take := goodIn_ca (goodIn_ca (goodIn_ca (goodIn_r _ [8, 9, 10, 11, 12, 7, 13, 14, 15, 16, 17, 18, 19, 20, 21, 22, 23, 24, 25, 26, 27, 28, 29, 30, 31, 32, 33, 34, 35, 36, 37, 38, 39, 40, 41, 42, 43, 44, 45, 46, 47, 48, 49, 50, 51, 52, 53, 54, 55, 56, 57, 58] (by decide +kernel) (by decide +kernel)) (goodIn_sub (fun _ h => List.mem_cons_of_mem _ (List.mem_append_left _ (List.mem_append_left _ (List.mem_append_right _ h)))) (by decide +kernel))) (goodIn_sub (fun _ h => List.mem_cons_of_mem _ (List.mem_append_left _ (List.mem_append_right _ h))) (by decide +kernel))) (goodIn_sub (fun _ h => List.mem_cons_of_mem _ (List.mem_append_right _ h)) (by decide +kernel))
set_option maxRecDepth 20000 in
theorem gL_take_X1_take : GoodIn wsL_take (wsV RL 51 RX1 yX1_take wsX1_take) := goodIn_app (goodIn_of _ (by decide +kernel)) ggL_take_X1_take
theorem dL_take_0 : decode cL_take 0 = .ok (.aload_n 3, 1) := by decide +kernel
theorem dL_take_1 : decode cL_take 1 = .ok (.iconst 0, 1) := by decide +kernel
theorem dL_take_2 : decode cL_take 2 = .ok (.aload_n 0, 1) := by decide +kernel
theorem dL_take_3 : decode cL_take 3 = .ok (.iload_n 1, 1) := by decide +kernel
theorem dL_take_4 : decode cL_take 4 = .ok (.iload_n 2, 1) := by decide +kernel
theorem dL_take_5 : decode cL_take 5 = .ok (.invokevirtual 51, 3) := by decide +kernel
theorem dL_take_8 : decode cL_take 8 = .ok (.i2l, 1) := by decide +kernel
theorem dL_take_9 : decode cL_take 9 = .ok (.lastore, 1) := by decide +kernel
theorem dL_take_10 : decode cL_take 10 = .ok (.goto 15, 3) := by decide +kernel
theorem dL_take_13 : decode cL_take 13 = .ok (.astore 4, 2) := by decide +kernel
theorem dL_take_15 : decode cL_take 15 = .ok (.iconst 1, 1) := by decide +kernel
theorem dL_take_16 : decode cL_take 16 = .ok (.ireturn, 1) := by decide +kernel
theorem dL_take_17 : decode cL_take 17 = .ok (.astore 4, 2) := by decide +kernel
theorem dL_take_19 : decode cL_take 19 = .ok (.iconst 2, 1) := by decide +kernel
theorem dL_take_20 : decode cL_take 20 = .ok (.ireturn, 1) := by decide +kernel
theorem dL_take_21 : decode cL_take 21 = .ok (.astore 4, 2) := by decide +kernel
theorem dL_take_23 : decode cL_take 23 = .ok (.iconst 3, 1) := by decide +kernel
theorem dL_take_24 : decode cL_take 24 = .ok (.ireturn, 1) := by decide +kernel
theorem dL_take_25 : decode cL_take 25 = .ok (.iconst 0, 1) := by decide +kernel
theorem dL_take_26 : decode cL_take 26 = .ok (.ireturn, 1) := by decide +kernel
set_option maxRecDepth 20000 in
theorem ggL_pour_X1_pour : GoodIn wsL_pour wsX1_pour := goodIn_ca (goodIn_ca (goodIn_r _ [7, 8, 9, 10, 11, 12, 13, 14, 15, 6, 16, 17, 18, 19, 20, 21, 22, 23, 24, 25, 26, 27, 28, 29, 30, 31, 32, 33, 34, 35, 36, 37, 38, 39, 40, 41, 42, 43, 44, 45, 46, 47, 48, 49, 50, 51, 52, 53, 54, 55, 56, 57, 58, 59, 60, 61, 62, 63, 64, 65, 66] (by decide +kernel) (by decide +kernel)) (goodIn_sub (fun _ h => List.mem_cons_of_mem _ (List.mem_append_left _ (List.mem_append_right _ h))) (by decide +kernel))) (goodIn_sub (fun _ h => List.mem_cons_of_mem _ (List.mem_append_right _ h)) (by decide +kernel))
set_option maxRecDepth 20000 in
theorem gL_pour_X1_pour : GoodIn wsL_pour (wsV RL 54 RX1 yX1_pour wsX1_pour) := goodIn_app (goodIn_of _ (by decide +kernel)) ggL_pour_X1_pour
theorem dL_pour_0 : decode cL_pour 0 = .ok (.aload_n 3, 1) := by decide +kernel
theorem dL_pour_1 : decode cL_pour 1 = .ok (.iconst 0, 1) := by decide +kernel
theorem dL_pour_2 : decode cL_pour 2 = .ok (.aload_n 0, 1) := by decide +kernel
theorem dL_pour_3 : decode cL_pour 3 = .ok (.iload_n 1, 1) := by decide +kernel
theorem dL_pour_4 : decode cL_pour 4 = .ok (.iload_n 2, 1) := by decide +kernel
theorem dL_pour_5 : decode cL_pour 5 = .ok (.invokevirtual 54, 3) := by decide +kernel
theorem dL_pour_8 : decode cL_pour 8 = .ok (.i2l, 1) := by decide +kernel
theorem dL_pour_9 : decode cL_pour 9 = .ok (.lastore, 1) := by decide +kernel
theorem dL_pour_10 : decode cL_pour 10 = .ok (.goto 11, 3) := by decide +kernel
theorem dL_pour_13 : decode cL_pour 13 = .ok (.astore 4, 2) := by decide +kernel
theorem dL_pour_15 : decode cL_pour 15 = .ok (.iconst 1, 1) := by decide +kernel
theorem dL_pour_16 : decode cL_pour 16 = .ok (.ireturn, 1) := by decide +kernel
theorem dL_pour_17 : decode cL_pour 17 = .ok (.astore 4, 2) := by decide +kernel
theorem dL_pour_19 : decode cL_pour 19 = .ok (.iconst 2, 1) := by decide +kernel
theorem dL_pour_20 : decode cL_pour 20 = .ok (.ireturn, 1) := by decide +kernel
theorem dL_pour_21 : decode cL_pour 21 = .ok (.iconst 0, 1) := by decide +kernel
theorem dL_pour_22 : decode cL_pour 22 = .ok (.ireturn, 1) := by decide +kernel
set_option maxRecDepth 20000 in
theorem ggL_sweep_X1_sweep : GoodIn wsL_sweep wsX1_sweep := goodIn_ca (goodIn_r _ [6, 7, 8, 9, 10, 11, 12, 5, 13, 14, 15, 16, 17, 18, 19, 20, 21, 22, 23, 24, 25, 26, 27, 28, 29, 30, 31, 32, 33, 34, 35, 36, 37, 38, 39, 40, 41, 42, 43, 44, 45, 46, 47, 48, 49, 50, 51, 52, 53, 54, 55, 56, 57, 58, 59, 60, 61, 62] (by decide +kernel) (by decide +kernel)) (goodIn_sub (fun _ h => List.mem_cons_of_mem _ (List.mem_append_right _ h)) (by decide +kernel))
set_option maxRecDepth 20000 in
theorem gL_sweep_X1_sweep : GoodIn wsL_sweep (wsV RL 57 RX1 yX1_sweep wsX1_sweep) := goodIn_app (goodIn_of _ (by decide +kernel)) ggL_sweep_X1_sweep
theorem dL_sweep_0 : decode cL_sweep 0 = .ok (.aload_n 2, 1) := by decide +kernel
theorem dL_sweep_1 : decode cL_sweep 1 = .ok (.iconst 0, 1) := by decide +kernel
theorem dL_sweep_2 : decode cL_sweep 2 = .ok (.aload_n 0, 1) := by decide +kernel
theorem dL_sweep_3 : decode cL_sweep 3 = .ok (.iload_n 1, 1) := by decide +kernel
theorem dL_sweep_4 : decode cL_sweep 4 = .ok (.invokevirtual 57, 3) := by decide +kernel
theorem dL_sweep_7 : decode cL_sweep 7 = .ok (.i2l, 1) := by decide +kernel
theorem dL_sweep_8 : decode cL_sweep 8 = .ok (.lastore, 1) := by decide +kernel
theorem dL_sweep_9 : decode cL_sweep 9 = .ok (.goto 6, 3) := by decide +kernel
theorem dL_sweep_12 : decode cL_sweep 12 = .ok (.astore_n 3, 1) := by decide +kernel
theorem dL_sweep_13 : decode cL_sweep 13 = .ok (.iconst 1, 1) := by decide +kernel
theorem dL_sweep_14 : decode cL_sweep 14 = .ok (.ireturn, 1) := by decide +kernel
theorem dL_sweep_15 : decode cL_sweep 15 = .ok (.iconst 0, 1) := by decide +kernel
theorem dL_sweep_16 : decode cL_sweep 16 = .ok (.ireturn, 1) := by decide +kernel
set_option maxRecDepth 20000 in
theorem ggL_heavier_X1_heavier : GoodIn wsL_heavier wsX1_heavier := goodIn_ca (goodIn_r _ [6, 7, 8, 9, 5, 10, 11, 12, 13, 14, 15, 16, 17, 18, 19, 20, 21, 22, 23, 24, 25, 26, 27, 28, 29, 30, 31, 32, 33, 34, 35, 36, 37, 38, 39, 40, 41, 42, 43, 44, 45, 46, 47, 48, 49, 50] (by decide +kernel) (by decide +kernel)) (goodIn_sub (fun _ h => List.mem_cons_of_mem _ (List.mem_append_right _ h)) (by decide +kernel))
set_option maxRecDepth 20000 in
theorem gL_heavier_X1_heavier : GoodIn wsL_heavier (wsV RL 61 RX1 yX1_heavier wsX1_heavier) := goodIn_app (goodIn_of _ (by decide +kernel)) ggL_heavier_X1_heavier
theorem dL_heavier_0 : decode cL_heavier 0 = .ok (.aload_n 3, 1) := by decide +kernel
theorem dL_heavier_1 : decode cL_heavier 1 = .ok (.iconst 0, 1) := by decide +kernel
theorem dL_heavier_2 : decode cL_heavier 2 = .ok (.aload_n 0, 1) := by decide +kernel
theorem dL_heavier_3 : decode cL_heavier 3 = .ok (.iload_n 1, 1) := by decide +kernel
theorem dL_heavier_4 : decode cL_heavier 4 = .ok (.iload_n 2, 1) := by decide +kernel
theorem dL_heavier_5 : decode cL_heavier 5 = .ok (.invokevirtual 61, 3) := by decide +kernel
theorem dL_heavier_8 : decode cL_heavier 8 = .ok (.i2l, 1) := by decide +kernel
theorem dL_heavier_9 : decode cL_heavier 9 = .ok (.lastore, 1) := by decide +kernel
theorem dL_heavier_10 : decode cL_heavier 10 = .ok (.goto 7, 3) := by decide +kernel
theorem dL_heavier_13 : decode cL_heavier 13 = .ok (.astore 4, 2) := by decide +kernel
theorem dL_heavier_15 : decode cL_heavier 15 = .ok (.iconst 1, 1) := by decide +kernel
theorem dL_heavier_16 : decode cL_heavier 16 = .ok (.ireturn, 1) := by decide +kernel
theorem dL_heavier_17 : decode cL_heavier 17 = .ok (.iconst 0, 1) := by decide +kernel
theorem dL_heavier_18 : decode cL_heavier 18 = .ok (.ireturn, 1) := by decide +kernel
set_option maxRecDepth 20000 in
theorem ggL_alike_X1_alike : GoodIn wsL_alike wsX1_alike := goodIn_ca (goodIn_r _ [6, 7, 8, 9, 10, 11, 12, 13, 14, 15, 16, 5, 17, 18, 19, 20, 21, 22, 23, 24, 25, 26, 27, 28, 29, 30, 31, 32, 33, 34, 35, 36, 37, 38, 39, 40, 41, 42, 43, 44] (by decide +kernel) (by decide +kernel)) (goodIn_sub (fun _ h => List.mem_cons_of_mem _ (List.mem_append_right _ h)) (by decide +kernel))
set_option maxRecDepth 20000 in
theorem gL_alike_X1_alike : GoodIn wsL_alike (wsV RL 64 RX1 yX1_alike wsX1_alike) := goodIn_app (goodIn_of _ (by decide +kernel)) ggL_alike_X1_alike
theorem dL_alike_0 : decode cL_alike 0 = .ok (.aload_n 3, 1) := by decide +kernel
theorem dL_alike_1 : decode cL_alike 1 = .ok (.iconst 0, 1) := by decide +kernel
theorem dL_alike_2 : decode cL_alike 2 = .ok (.aload_n 0, 1) := by decide +kernel
theorem dL_alike_3 : decode cL_alike 3 = .ok (.iload_n 1, 1) := by decide +kernel
theorem dL_alike_4 : decode cL_alike 4 = .ok (.iload_n 2, 1) := by decide +kernel
theorem dL_alike_5 : decode cL_alike 5 = .ok (.invokevirtual 64, 3) := by decide +kernel
theorem dL_alike_8 : decode cL_alike 8 = .ok (.i2l, 1) := by decide +kernel
theorem dL_alike_9 : decode cL_alike 9 = .ok (.lastore, 1) := by decide +kernel
theorem dL_alike_10 : decode cL_alike 10 = .ok (.goto 7, 3) := by decide +kernel
theorem dL_alike_13 : decode cL_alike 13 = .ok (.astore 4, 2) := by decide +kernel
theorem dL_alike_15 : decode cL_alike 15 = .ok (.iconst 1, 1) := by decide +kernel
theorem dL_alike_16 : decode cL_alike 16 = .ok (.ireturn, 1) := by decide +kernel
theorem dL_alike_17 : decode cL_alike 17 = .ok (.iconst 0, 1) := by decide +kernel
theorem dL_alike_18 : decode cL_alike 18 = .ok (.ireturn, 1) := by decide +kernel
set_option maxRecDepth 20000 in
theorem ggL_gauge_X1_gauge : GoodIn wsL_gauge wsX1_gauge := goodIn_ca (goodIn_r _ [6, 7, 8, 9, 10, 11, 12, 13, 14, 15, 16, 17, 18, 19, 20, 21, 22, 23, 24, 25, 26] (by decide +kernel) (by decide +kernel)) (goodIn_sub (fun _ h => List.mem_cons_of_mem _ (List.mem_append_right _ h)) (by decide +kernel))
set_option maxRecDepth 20000 in
theorem gL_gauge_X1_gauge : GoodIn wsL_gauge (wsV RL 67 RX1 yX1_gauge wsX1_gauge) := goodIn_app (goodIn_of _ (by decide +kernel)) ggL_gauge_X1_gauge
theorem dL_gauge_0 : decode cL_gauge 0 = .ok (.aload_n 2, 1) := by decide +kernel
theorem dL_gauge_1 : decode cL_gauge 1 = .ok (.iconst 0, 1) := by decide +kernel
theorem dL_gauge_2 : decode cL_gauge 2 = .ok (.aload_n 0, 1) := by decide +kernel
theorem dL_gauge_3 : decode cL_gauge 3 = .ok (.iload_n 1, 1) := by decide +kernel
theorem dL_gauge_4 : decode cL_gauge 4 = .ok (.invokevirtual 67, 3) := by decide +kernel
theorem dL_gauge_7 : decode cL_gauge 7 = .ok (.i2l, 1) := by decide +kernel
theorem dL_gauge_8 : decode cL_gauge 8 = .ok (.lastore, 1) := by decide +kernel
theorem dL_gauge_9 : decode cL_gauge 9 = .ok (.goto 6, 3) := by decide +kernel
theorem dL_gauge_12 : decode cL_gauge 12 = .ok (.astore_n 3, 1) := by decide +kernel
theorem dL_gauge_13 : decode cL_gauge 13 = .ok (.iconst 1, 1) := by decide +kernel
theorem dL_gauge_14 : decode cL_gauge 14 = .ok (.ireturn, 1) := by decide +kernel
theorem dL_gauge_15 : decode cL_gauge 15 = .ok (.iconst 0, 1) := by decide +kernel
theorem dL_gauge_16 : decode cL_gauge 16 = .ok (.ireturn, 1) := by decide +kernel
set_option maxRecDepth 20000 in
theorem ggL_law_X1_init : GoodIn wsL_law wsX1_init := goodIn_r _ [9, 10, 11, 12, 13, 14, 15, 16, 17, 18, 19, 20, 21, 22, 388, 389, 390, 391, 392, 393, 394, 395, 396, 397, 418, 419, 420, 421, 422, 423, 424, 425] (by decide +kernel) (by decide +kernel)
set_option maxRecDepth 20000 in
theorem gL_law_X1_init : GoodIn wsL_law (wsX1_init) := ggL_law_X1_init
set_option maxRecDepth 20000 in
theorem ggL_law_X2_init : GoodIn wsL_law wsX2_init := goodIn_r _ [25, 26, 11, 12, 20, 27, 28, 29, 30, 31, 32, 33, 34, 35, 36, 398, 399, 400, 401, 402, 403, 404, 405, 406, 407, 408, 409, 410, 411, 412, 413, 414, 415, 416, 417] (by decide +kernel) (by decide +kernel)
set_option maxRecDepth 20000 in
theorem gL_law_X2_init : GoodIn wsL_law (wsX2_init) := ggL_law_X2_init
set_option maxRecDepth 20000 in
theorem ggL_law_L_sort : GoodIn wsL_law wsL_sort := goodIn_ca (goodIn_ca (goodIn_ca (goodIn_r _ [40, 41, 42, 43, 44, 45, 46, 2, 47, 48, 49, 50, 51, 52, 53, 54, 55, 56, 57, 58, 59, 14, 418, 419, 420, 421, 422, 423, 424, 425, 388, 389, 390, 391, 392, 393, 394, 395, 396, 397] (by decide +kernel) (by decide +kernel)) (goodIn_sub (fun _ h => List.mem_append_left _ (List.mem_append_left _ (List.mem_append_left _ (List.mem_append_right _ h)))) (by decide +kernel))) (goodIn_sub (fun _ h => List.mem_append_left _ (List.mem_append_left _ (List.mem_append_right _ h))) (by decide +kernel))) (goodIn_sub (fun _ h => List.mem_append_left _ (List.mem_append_right _ h)) (by decide +kernel))
set_option maxRecDepth 20000 in
theorem gL_law_L_sort : GoodIn wsL_law (va_wsS RL 74 yL_sort wsL_sort) := goodIn_app (goodIn_of _ (by decide +kernel)) ggL_law_L_sort
set_option maxRecDepth 20000 in
theorem ggL_law_X2_sort : GoodIn wsL_law wsX2_sort := goodIn_r _ [63, 64, 31, 65, 66, 5, 67, 68, 69, 70, 71, 72, 73, 74, 27, 398, 399, 400, 401, 402, 403, 404, 405, 406, 407, 408, 409, 410, 411, 412, 413, 414, 415, 416, 417] (by decide +kernel) (by decide +kernel)
set_option maxRecDepth 20000 in
theorem gL_law_X2_sort : GoodIn wsL_law (wsV RL 79 RX2 yX2_sort wsX2_sort) := goodIn_app (goodIn_of _ (by decide +kernel)) ggL_law_X2_sort
set_option maxRecDepth 20000 in
theorem ggL_law_X2_thrown : GoodIn wsL_law wsX2_thrown := goodIn_r _ [78, 64, 398, 399, 400, 401, 402, 403, 404, 405, 406, 407, 408, 409, 410, 411, 412, 413, 414, 415, 416, 417] (by decide +kernel) (by decide +kernel)
set_option maxRecDepth 20000 in
theorem gL_law_X2_thrown : GoodIn wsL_law (wsV RL 80 RX2 yX2_thrown wsX2_thrown) := goodIn_app (goodIn_of _ (by decide +kernel)) ggL_law_X2_thrown
set_option maxRecDepth 20000 in
theorem ggL_law_L_limits : GoodIn wsL_law wsL_limits := goodIn_ca (goodIn_ca (goodIn_ca (goodIn_r _ [81, 41, 42, 43, 82, 83, 84, 2, 85, 50, 51, 86, 87, 88, 54, 55, 56, 57, 58, 59, 14, 89, 90, 91, 48, 49, 92, 93, 94, 95, 96, 97, 98, 99, 100, 101, 102, 103, 104, 418, 419, 420, 421, 422, 423, 424, 425, 388, 389, 390, 391, 392, 393, 394, 395, 396, 397] (by decide +kernel) (by decide +kernel)) (goodIn_sub (fun _ h => List.mem_append_left _ (List.mem_append_left _ (List.mem_append_right _ h))) (by decide +kernel))) (goodIn_sub (fun _ h => List.mem_append_left _ (List.mem_append_right _ h)) (by decide +kernel))) (goodIn_sub (fun _ h => List.mem_append_left _ (List.mem_append_left _ (List.mem_append_left _ (List.mem_append_right _ h)))) (by decide +kernel))
set_option maxRecDepth 20000 in
theorem gL_law_L_limits : GoodIn wsL_law (va_wsS RL 84 yL_limits wsL_limits) := goodIn_app (goodIn_of _ (by decide +kernel)) ggL_law_L_limits
set_option maxRecDepth 20000 in
theorem ggL_law_X2_limits : GoodIn wsL_law wsX2_limits := goodIn_r _ [108, 109, 64, 32, 33, 34, 65, 66, 5, 67, 68, 69, 70, 110, 111, 112, 113, 114, 115, 398, 399, 400, 401, 402, 403, 404, 405, 406, 407, 408, 409, 410, 411, 412, 413, 414, 415, 416, 417] (by decide +kernel) (by decide +kernel)
set_option maxRecDepth 20000 in
theorem gL_law_X2_limits : GoodIn wsL_law (wsV RL 87 RX2 yX2_limits wsX2_limits) := goodIn_app (goodIn_of _ (by decide +kernel)) ggL_law_X2_limits
set_option maxRecDepth 20000 in
theorem ggL_law_L_shut : GoodIn wsL_law wsL_shut := goodIn_ca (goodIn_r _ [118, 41, 119, 120, 121, 2, 122, 123, 54, 55, 56, 57, 58, 59, 14, 418, 419, 420, 421, 422, 423, 424, 425, 388, 389, 390, 391, 392, 393, 394, 395, 396, 397] (by decide +kernel) (by decide +kernel)) (goodIn_sub (fun _ h => List.mem_append_left _ (List.mem_append_right _ h)) (by decide +kernel))
set_option maxRecDepth 20000 in
theorem gL_law_L_shut : GoodIn wsL_law (va_wsS RL 88 yL_shut wsL_shut) := goodIn_app (goodIn_of _ (by decide +kernel)) ggL_law_L_shut
set_option maxRecDepth 20000 in
theorem ggL_law_X2_shut : GoodIn wsL_law wsX2_shut := goodIn_r _ [127, 64, 36, 65, 66, 5, 67, 68, 69, 70, 398, 399, 400, 401, 402, 403, 404, 405, 406, 407, 408, 409, 410, 411, 412, 413, 414, 415, 416, 417] (by decide +kernel) (by decide +kernel)
set_option maxRecDepth 20000 in
theorem gL_law_X2_shut : GoodIn wsL_law (wsV RL 91 RX2 yX2_shut wsX2_shut) := goodIn_app (goodIn_of _ (by decide +kernel)) ggL_law_X2_shut
set_option maxRecDepth 20000 in
theorem ggL_law_L_send : GoodIn wsL_law wsL_send := goodIn_ca (goodIn_r _ [130, 42, 131, 132, 133, 2, 134, 14, 123, 89, 90, 91, 48, 49, 92, 93, 94, 95, 135, 136, 137, 138, 139, 140, 141, 142, 143, 144, 96, 97, 98, 99, 100, 101, 145, 146, 147, 16, 148, 149, 21, 22, 150, 151, 152, 153, 154, 155, 156, 157, 158, 159, 160, 161, 162, 163, 164, 165, 166, 167, 168, 388, 389, 390, 391, 392, 393, 394, 395, 396, 397, 418, 419, 420, 421, 422, 423, 424, 425] (by decide +kernel) (by decide +kernel)) (goodIn_sub (fun _ h => List.mem_append_left _ (List.mem_append_left _ (List.mem_append_left _ (List.mem_append_right _ h)))) (by decide +kernel))
set_option maxRecDepth 20000 in
theorem gL_law_L_send : GoodIn wsL_law (va_wsS RL 92 yL_send wsL_send) := goodIn_app (goodIn_of _ (by decide +kernel)) ggL_law_L_send
set_option maxRecDepth 20000 in
theorem ggL_law_X2_send : GoodIn wsL_law wsX2_send := goodIn_r _ [172, 64, 36, 173, 174, 5, 175, 109, 68, 69, 70, 176, 177, 178, 179, 180, 181, 182, 183, 184, 185, 110, 111, 112, 113, 114, 115, 71, 72, 73, 74, 27, 186, 187, 188, 189, 31, 32, 33, 34, 190, 191, 192, 193, 28, 29, 30, 194, 195, 196, 197, 198, 199, 200, 201, 398, 399, 400, 401, 402, 403, 404, 405, 406, 407, 408, 409, 410, 411, 412, 413, 414, 415, 416, 417] (by decide +kernel) (by decide +kernel)
set_option maxRecDepth 20000 in
theorem gL_law_X2_send : GoodIn wsL_law (wsV RL 94 RX2 yX2_send wsX2_send) := goodIn_app (goodIn_of _ (by decide +kernel)) ggL_law_X2_send
set_option maxRecDepth 20000 in
theorem ggL_law_L_fits : GoodIn wsL_law wsL_fits := goodIn_ca (goodIn_r _ [204, 42, 205, 206, 207, 2, 208, 14, 89, 90, 91, 48, 49, 92, 93, 94, 95, 209, 151, 152, 16, 153, 154, 155, 156, 157, 97, 98, 99, 100, 101, 388, 389, 390, 391, 392, 393, 394, 395, 396, 397, 418, 419, 420, 421, 422, 423, 424, 425] (by decide +kernel) (by decide +kernel)) (goodIn_sub (fun _ h => List.mem_append_left _ (List.mem_append_left _ (List.mem_append_left _ (List.mem_append_right _ h)))) (by decide +kernel))
set_option maxRecDepth 20000 in
theorem gL_law_L_fits : GoodIn wsL_law (va_wsS RL 95 yL_fits wsL_fits) := goodIn_app (goodIn_of _ (by decide +kernel)) ggL_law_L_fits
set_option maxRecDepth 20000 in
theorem ggL_law_X2_fits : GoodIn wsL_law wsX2_fits := goodIn_r _ [213, 64, 173, 174, 5, 175, 109, 68, 69, 70, 186, 187, 188, 189, 31, 32, 33, 34, 110, 111, 112, 113, 114, 115, 398, 399, 400, 401, 402, 403, 404, 405, 406, 407, 408, 409, 410, 411, 412, 413, 414, 415, 416, 417] (by decide +kernel) (by decide +kernel)
set_option maxRecDepth 20000 in
theorem gL_law_X2_fits : GoodIn wsL_law (wsV RL 97 RX2 yX2_fits wsX2_fits) := goodIn_app (goodIn_of _ (by decide +kernel)) ggL_law_X2_fits
set_option maxRecDepth 20000 in
theorem ggL_law_L_signs : GoodIn wsL_law wsL_signs := goodIn_ca (goodIn_ca (goodIn_r _ [216, 41, 42, 217, 218, 219, 2, 220, 48, 49, 86, 87, 88, 54, 55, 56, 57, 58, 59, 14, 89, 90, 91, 92, 99, 100, 101, 93, 94, 95, 418, 419, 420, 421, 422, 423, 424, 425, 388, 389, 390, 391, 392, 393, 394, 395, 396, 397] (by decide +kernel) (by decide +kernel)) (goodIn_sub (fun _ h => List.mem_append_left _ (List.mem_append_left _ (List.mem_append_left _ (List.mem_append_right _ h)))) (by decide +kernel))) (goodIn_sub (fun _ h => List.mem_append_left _ (List.mem_append_right _ h)) (by decide +kernel))
set_option maxRecDepth 20000 in
theorem gL_law_L_signs : GoodIn wsL_law (va_wsS RL 98 yL_signs wsL_signs) := goodIn_app (goodIn_of _ (by decide +kernel)) ggL_law_L_signs
set_option maxRecDepth 20000 in
theorem ggL_law_X2_signs : GoodIn wsL_law wsX2_signs := goodIn_r _ [224, 109, 64, 32, 33, 34, 65, 66, 5, 67, 68, 69, 70, 113, 114, 115, 398, 399, 400, 401, 402, 403, 404, 405, 406, 407, 408, 409, 410, 411, 412, 413, 414, 415, 416, 417] (by decide +kernel) (by decide +kernel)
set_option maxRecDepth 20000 in
theorem gL_law_X2_signs : GoodIn wsL_law (wsV RL 101 RX2 yX2_signs wsX2_signs) := goodIn_app (goodIn_of _ (by decide +kernel)) ggL_law_X2_signs
set_option maxRecDepth 20000 in
theorem ggL_law_L_chute : GoodIn wsL_law wsL_chute := goodIn_ca (goodIn_ca (goodIn_r _ [227, 41, 42, 228, 229, 230, 2, 231, 48, 49, 53, 86, 87, 88, 123, 52, 232, 233, 54, 55, 56, 57, 58, 59, 14, 102, 103, 104, 234, 235, 236, 16, 237, 149, 418, 419, 420, 421, 422, 423, 424, 425, 388, 389, 390, 391, 392, 393, 394, 395, 396, 397] (by decide +kernel) (by decide +kernel)) (goodIn_sub (fun _ h => List.mem_append_left _ (List.mem_append_left _ (List.mem_append_left _ (List.mem_append_right _ h)))) (by decide +kernel))) (goodIn_sub (fun _ h => List.mem_append_left _ (List.mem_append_right _ h)) (by decide +kernel))
set_option maxRecDepth 20000 in
theorem gL_law_L_chute : GoodIn wsL_law (va_wsS RL 102 yL_chute wsL_chute) := goodIn_app (goodIn_of _ (by decide +kernel)) ggL_law_L_chute
set_option maxRecDepth 20000 in
theorem ggL_law_X2_chute : GoodIn wsL_law wsX2_chute := goodIn_r _ [241, 64, 31, 32, 33, 34, 36, 65, 66, 5, 67, 68, 69, 70, 71, 72, 73, 74, 27, 242, 243, 244, 245, 29, 28, 398, 399, 400, 401, 402, 403, 404, 405, 406, 407, 408, 409, 410, 411, 412, 413, 414, 415, 416, 417] (by decide +kernel) (by decide +kernel)
set_option maxRecDepth 20000 in
theorem gL_law_X2_chute : GoodIn wsL_law (wsV RL 104 RX2 yX2_chute wsX2_chute) := goodIn_app (goodIn_of _ (by decide +kernel)) ggL_law_X2_chute
set_option maxRecDepth 20000 in
theorem ggL_law_L_weight : GoodIn wsL_law wsL_weight := goodIn_ca (goodIn_ca (goodIn_r _ [248, 41, 249, 250, 251, 252, 2, 253, 232, 54, 55, 56, 57, 58, 59, 14, 254, 255, 256, 257, 258, 52, 418, 419, 420, 421, 422, 423, 424, 425, 388, 389, 390, 391, 392, 393, 394, 395, 396, 397] (by decide +kernel) (by decide +kernel)) (goodIn_sub (fun _ h => List.mem_append_left _ (List.mem_append_right _ h)) (by decide +kernel))) (goodIn_sub (fun _ h => List.mem_append_right _ h) (by decide +kernel))
set_option maxRecDepth 20000 in
theorem gL_law_L_weight : GoodIn wsL_law (va_wsS RL 105 yL_weight wsL_weight) := goodIn_app (goodIn_of _ (by decide +kernel)) ggL_law_L_weight
set_option maxRecDepth 20000 in
theorem ggL_law_X2_weight : GoodIn wsL_law wsX2_weight := goodIn_r _ [262, 64, 28, 263, 264, 265, 5, 266, 65, 66, 67, 68, 69, 70, 267, 268, 269, 270, 27, 271, 272, 273, 274, 275, 276, 277, 278, 30, 398, 399, 400, 401, 402, 403, 404, 405, 406, 407, 408, 409, 410, 411, 412, 413, 414, 415, 416, 417] (by decide +kernel) (by decide +kernel)
set_option maxRecDepth 20000 in
theorem gL_law_X2_weight : GoodIn wsL_law (wsV RL 107 RX2 yX2_weight wsX2_weight) := goodIn_app (goodIn_of _ (by decide +kernel)) ggL_law_X2_weight
set_option maxRecDepth 20000 in
theorem ggL_law_L_girth : GoodIn wsL_law wsL_girth := goodIn_ca (goodIn_ca (goodIn_r _ [281, 41, 249, 282, 283, 284, 2, 285, 233, 54, 55, 56, 57, 58, 59, 14, 254, 255, 256, 257, 258, 52, 418, 419, 420, 421, 422, 423, 424, 425, 388, 389, 390, 391, 392, 393, 394, 395, 396, 397] (by decide +kernel) (by decide +kernel)) (goodIn_sub (fun _ h => List.mem_append_left _ (List.mem_append_right _ h)) (by decide +kernel))) (goodIn_sub (fun _ h => List.mem_append_right _ h) (by decide +kernel))
set_option maxRecDepth 20000 in
theorem gL_law_L_girth : GoodIn wsL_law (va_wsS RL 108 yL_girth wsL_girth) := goodIn_app (goodIn_of _ (by decide +kernel)) ggL_law_L_girth
set_option maxRecDepth 20000 in
theorem ggL_law_X2_girth : GoodIn wsL_law wsX2_girth := goodIn_r _ [289, 64, 29, 263, 264, 265, 5, 266, 65, 66, 67, 68, 69, 70, 267, 268, 269, 270, 27, 271, 272, 273, 274, 275, 276, 277, 278, 28, 30, 398, 399, 400, 401, 402, 403, 404, 405, 406, 407, 408, 409, 410, 411, 412, 413, 414, 415, 416, 417] (by decide +kernel) (by decide +kernel)
set_option maxRecDepth 20000 in
theorem gL_law_X2_girth : GoodIn wsL_law (wsV RL 110 RX2 yX2_girth wsX2_girth) := goodIn_app (goodIn_of _ (by decide +kernel)) ggL_law_X2_girth
set_option maxRecDepth 20000 in
theorem ggL_law_L_below : GoodIn wsL_law wsL_below := goodIn_ca (goodIn_ca (goodIn_r _ [292, 41, 42, 293, 294, 295, 2, 296, 52, 232, 54, 55, 56, 57, 58, 59, 14, 89, 90, 91, 48, 49, 92, 96, 97, 98, 99, 100, 101, 102, 103, 104, 418, 419, 420, 421, 422, 423, 424, 425, 388, 389, 390, 391, 392, 393, 394, 395, 396, 397] (by decide +kernel) (by decide +kernel)) (goodIn_sub (fun _ h => List.mem_append_left _ (List.mem_append_right _ h)) (by decide +kernel))) (goodIn_sub (fun _ h => List.mem_append_left _ (List.mem_append_left _ (List.mem_append_left _ (List.mem_append_right _ h)))) (by decide +kernel))
set_option maxRecDepth 20000 in
theorem gL_law_L_below : GoodIn wsL_law (va_wsS RL 111 yL_below wsL_below) := goodIn_app (goodIn_of _ (by decide +kernel)) ggL_law_L_below
set_option maxRecDepth 20000 in
theorem ggL_law_X2_below : GoodIn wsL_law wsX2_below := goodIn_r _ [300, 109, 64, 27, 28, 65, 66, 5, 67, 68, 69, 70, 110, 111, 112, 113, 114, 115, 398, 399, 400, 401, 402, 403, 404, 405, 406, 407, 408, 409, 410, 411, 412, 413, 414, 415, 416, 417] (by decide +kernel) (by decide +kernel)
set_option maxRecDepth 20000 in
theorem gL_law_X2_below : GoodIn wsL_law (wsV RL 113 RX2 yX2_below wsX2_below) := goodIn_app (goodIn_of _ (by decide +kernel)) ggL_law_X2_below
set_option maxRecDepth 20000 in
theorem ggL_law_L_take : GoodIn wsL_law wsL_take := goodIn_ca (goodIn_ca (goodIn_ca (goodIn_r _ [303, 41, 42, 249, 304, 305, 306, 2, 307, 233, 54, 55, 56, 57, 58, 59, 14, 89, 90, 91, 48, 49, 92, 308, 309, 310, 16, 311, 149, 21, 254, 255, 256, 257, 258, 52, 312, 313, 314, 315, 22, 418, 419, 420, 421, 422, 423, 424, 425, 388, 389, 390, 391, 392, 393, 394, 395, 396, 397] (by decide +kernel) (by decide +kernel)) (goodIn_sub (fun _ h => List.mem_append_left _ (List.mem_append_right _ h)) (by decide +kernel))) (goodIn_sub (fun _ h => List.mem_append_left _ (List.mem_append_left _ (List.mem_append_left _ (List.mem_append_right _ h)))) (by decide +kernel))) (goodIn_sub (fun _ h => List.mem_append_right _ h) (by decide +kernel))
set_option maxRecDepth 20000 in
theorem gL_law_L_take : GoodIn wsL_law (va_wsS RL 114 yL_take wsL_take) := goodIn_app (goodIn_of _ (by decide +kernel)) ggL_law_L_take
set_option maxRecDepth 20000 in
theorem ggL_law_X2_take : GoodIn wsL_law wsX2_take := goodIn_r _ [319, 109, 64, 27, 28, 30, 29, 65, 66, 5, 67, 68, 69, 70, 398, 399, 400, 401, 402, 403, 404, 405, 406, 407, 408, 409, 410, 411, 412, 413, 414, 415, 416, 417] (by decide +kernel) (by decide +kernel)
set_option maxRecDepth 20000 in
theorem gL_law_X2_take : GoodIn wsL_law (wsV RL 116 RX2 yX2_take wsX2_take) := goodIn_app (goodIn_of _ (by decide +kernel)) ggL_law_X2_take
set_option maxRecDepth 20000 in
theorem ggL_law_L_pour : GoodIn wsL_law wsL_pour := goodIn_ca (goodIn_ca (goodIn_r _ [322, 41, 42, 323, 324, 325, 2, 326, 48, 49, 52, 232, 233, 54, 55, 56, 57, 58, 59, 14, 145, 146, 147, 16, 148, 149, 21, 22, 150, 151, 152, 153, 154, 155, 156, 157, 97, 98, 99, 100, 101, 158, 159, 160, 161, 312, 313, 314, 315, 418, 419, 420, 421, 422, 423, 424, 425, 388, 389, 390, 391, 392, 393, 394, 395, 396, 397] (by decide +kernel) (by decide +kernel)) (goodIn_sub (fun _ h => List.mem_append_left _ (List.mem_append_left _ (List.mem_append_left _ (List.mem_append_right _ h)))) (by decide +kernel))) (goodIn_sub (fun _ h => List.mem_append_left _ (List.mem_append_right _ h)) (by decide +kernel))
set_option maxRecDepth 20000 in
theorem gL_law_L_pour : GoodIn wsL_law (va_wsS RL 117 yL_pour wsL_pour) := goodIn_app (goodIn_of _ (by decide +kernel)) ggL_law_L_pour
set_option maxRecDepth 20000 in
theorem ggL_law_X2_pour : GoodIn wsL_law wsX2_pour := goodIn_r _ [330, 64, 28, 29, 27, 30, 194, 65, 66, 5, 67, 68, 69, 70, 71, 72, 73, 74, 267, 268, 269, 270, 271, 272, 273, 274, 275, 276, 277, 278, 186, 187, 188, 189, 31, 32, 33, 34, 110, 111, 112, 113, 114, 115, 398, 399, 400, 401, 402, 403, 404, 405, 406, 407, 408, 409, 410, 411, 412, 413, 414, 415, 416, 417] (by decide +kernel) (by decide +kernel)
set_option maxRecDepth 20000 in
theorem gL_law_X2_pour : GoodIn wsL_law (wsV RL 119 RX2 yX2_pour wsX2_pour) := goodIn_app (goodIn_of _ (by decide +kernel)) ggL_law_X2_pour
set_option maxRecDepth 20000 in
theorem ggL_law_L_sweep : GoodIn wsL_law wsL_sweep := goodIn_ca (goodIn_r _ [333, 41, 334, 335, 336, 2, 337, 52, 232, 233, 54, 55, 56, 57, 58, 59, 14, 209, 151, 152, 16, 153, 154, 155, 156, 157, 97, 98, 99, 100, 101, 162, 163, 164, 165, 166, 167, 168, 312, 313, 314, 315, 149, 21, 22, 418, 419, 420, 421, 422, 423, 424, 425, 388, 389, 390, 391, 392, 393, 394, 395, 396, 397] (by decide +kernel) (by decide +kernel)) (goodIn_sub (fun _ h => List.mem_append_left _ (List.mem_append_right _ h)) (by decide +kernel))
set_option maxRecDepth 20000 in
theorem gL_law_L_sweep : GoodIn wsL_law (va_wsS RL 120 yL_sweep wsL_sweep) := goodIn_app (goodIn_of _ (by decide +kernel)) ggL_law_L_sweep
set_option maxRecDepth 20000 in
theorem ggL_law_X2_sweep : GoodIn wsL_law wsX2_sweep := goodIn_r _ [341, 64, 28, 29, 27, 65, 66, 5, 67, 68, 69, 70, 71, 72, 73, 74, 267, 268, 269, 270, 271, 272, 273, 274, 275, 276, 277, 278, 30, 186, 187, 188, 189, 31, 32, 33, 34, 110, 111, 112, 113, 114, 115, 195, 196, 197, 198, 199, 200, 201, 398, 399, 400, 401, 402, 403, 404, 405, 406, 407, 408, 409, 410, 411, 412, 413, 414, 415, 416, 417] (by decide +kernel) (by decide +kernel)
set_option maxRecDepth 20000 in
theorem gL_law_X2_sweep : GoodIn wsL_law (wsV RL 123 RX2 yX2_sweep wsX2_sweep) := goodIn_app (goodIn_of _ (by decide +kernel)) ggL_law_X2_sweep
set_option maxRecDepth 20000 in
theorem ggL_law_L_heavier : GoodIn wsL_law wsL_heavier := goodIn_ca (goodIn_r _ [344, 41, 345, 346, 347, 2, 348, 54, 55, 56, 57, 58, 59, 14, 349, 350, 351, 16, 352, 149, 21, 353, 235, 236, 237, 103, 104, 96, 97, 98, 99, 100, 101, 388, 389, 390, 391, 392, 393, 394, 395, 396, 397, 418, 419, 420, 421, 422, 423, 424, 425] (by decide +kernel) (by decide +kernel)) (goodIn_sub (fun _ h => List.mem_append_left _ (List.mem_append_right _ h)) (by decide +kernel))
set_option maxRecDepth 20000 in
theorem gL_law_L_heavier : GoodIn wsL_law (va_wsS RL 124 yL_heavier wsL_heavier) := goodIn_app (goodIn_of _ (by decide +kernel)) ggL_law_L_heavier
set_option maxRecDepth 20000 in
theorem ggL_law_X2_heavier : GoodIn wsL_law wsX2_heavier := goodIn_r _ [357, 64, 65, 66, 5, 67, 68, 69, 70, 358, 359, 360, 361, 27, 28, 113, 114, 115, 398, 399, 400, 401, 402, 403, 404, 405, 406, 407, 408, 409, 410, 411, 412, 413, 414, 415, 416, 417] (by decide +kernel) (by decide +kernel)
set_option maxRecDepth 20000 in
theorem gL_law_X2_heavier : GoodIn wsL_law (wsV RL 126 RX2 yX2_heavier wsX2_heavier) := goodIn_app (goodIn_of _ (by decide +kernel)) ggL_law_X2_heavier
set_option maxRecDepth 20000 in
theorem ggL_law_L_alike : GoodIn wsL_law wsL_alike := goodIn_ca (goodIn_r _ [364, 41, 365, 366, 367, 2, 368, 52, 369, 370, 371, 372, 232, 233, 54, 55, 56, 57, 58, 59, 14, 96, 97, 98, 99, 100, 101, 418, 419, 420, 421, 422, 423, 424, 425, 388, 389, 390, 391, 392, 393, 394, 395, 396, 397] (by decide +kernel) (by decide +kernel)) (goodIn_sub (fun _ h => List.mem_append_left _ (List.mem_append_right _ h)) (by decide +kernel))
set_option maxRecDepth 20000 in
theorem gL_law_L_alike : GoodIn wsL_law (va_wsS RL 127 yL_alike wsL_alike) := goodIn_app (goodIn_of _ (by decide +kernel)) ggL_law_L_alike
set_option maxRecDepth 20000 in
theorem ggL_law_X2_alike : GoodIn wsL_law wsX2_alike := goodIn_r _ [376, 64, 28, 29, 65, 66, 5, 67, 68, 69, 70, 267, 268, 269, 270, 27, 271, 272, 273, 274, 275, 276, 277, 278, 30, 110, 111, 112, 113, 114, 115, 398, 399, 400, 401, 402, 403, 404, 405, 406, 407, 408, 409, 410, 411, 412, 413, 414, 415, 416, 417] (by decide +kernel) (by decide +kernel)
set_option maxRecDepth 20000 in
theorem gL_law_X2_alike : GoodIn wsL_law (wsV RL 129 RX2 yX2_alike wsX2_alike) := goodIn_app (goodIn_of _ (by decide +kernel)) ggL_law_X2_alike
set_option maxRecDepth 20000 in
theorem ggL_law_L_gauge : GoodIn wsL_law wsL_gauge := goodIn_ca (goodIn_r _ [379, 42, 380, 381, 382, 2, 383, 48, 49, 139, 140, 141, 143, 144, 166, 167, 168, 388, 389, 390, 391, 392, 393, 394, 395, 396, 397] (by decide +kernel) (by decide +kernel)) (goodIn_sub (fun _ h => List.mem_append_left _ (List.mem_append_left _ (List.mem_append_left _ (List.mem_append_right _ h)))) (by decide +kernel))
set_option maxRecDepth 20000 in
theorem gL_law_L_gauge : GoodIn wsL_law (va_wsS RL 130 yL_gauge wsL_gauge) := goodIn_app (goodIn_of _ (by decide +kernel)) ggL_law_L_gauge
set_option maxRecDepth 20000 in
theorem ggL_law_X2_gauge : GoodIn wsL_law wsX2_gauge := goodIn_r _ [387, 64, 183, 184, 185, 182, 180, 199, 200, 201, 68, 69, 5, 70, 398, 399, 400, 401, 402, 403, 404, 405, 406, 407, 408, 409, 410, 411, 412, 413, 414, 415, 416, 417] (by decide +kernel) (by decide +kernel)
set_option maxRecDepth 20000 in
theorem gL_law_X2_gauge : GoodIn wsL_law (wsV RL 132 RX2 yX2_gauge wsX2_gauge) := goodIn_app (goodIn_of _ (by decide +kernel)) ggL_law_X2_gauge
theorem dL_law_0 : decode cL_law 0 = .ok (.new 8, 3) := by decide +kernel
theorem dL_law_3 : decode cL_law 3 = .ok (.dup, 1) := by decide +kernel
theorem dL_law_4 : decode cL_law 4 = .ok (.invokespecial 70, 3) := by decide +kernel
theorem dL_law_7 : decode cL_law 7 = .ok (.astore_n 1, 1) := by decide +kernel
theorem dL_law_8 : decode cL_law 8 = .ok (.new 71, 3) := by decide +kernel
theorem dL_law_11 : decode cL_law 11 = .ok (.dup, 1) := by decide +kernel
theorem dL_law_12 : decode cL_law 12 = .ok (.invokespecial 73, 3) := by decide +kernel
theorem dL_law_15 : decode cL_law 15 = .ok (.astore_n 2, 1) := by decide +kernel
theorem dL_law_16 : decode cL_law 16 = .ok (.iconst 1, 1) := by decide +kernel
theorem dL_law_17 : decode cL_law 17 = .ok (.newarray .long, 2) := by decide +kernel
theorem dL_law_19 : decode cL_law 19 = .ok (.astore_n 3, 1) := by decide +kernel
theorem dL_law_20 : decode cL_law 20 = .ok (.iconst 0, 1) := by decide +kernel
theorem dL_law_21 : decode cL_law 21 = .ok (.istore 4, 2) := by decide +kernel
theorem dL_law_23 : decode cL_law 23 = .ok (.iload 4, 2) := by decide +kernel
theorem dL_law_25 : decode cL_law 25 = .ok (.aload_n 0, 1) := by decide +kernel
theorem dL_law_26 : decode cL_law 26 = .ok (.arraylength, 1) := by decide +kernel
theorem dL_law_27 : decode cL_law 27 = .ok (.iconst 5, 1) := by decide +kernel
theorem dL_law_28 : decode cL_law 28 = .ok (.isub, 1) := by decide +kernel
theorem dL_law_29 : decode cL_law 29 = .ok (.if_icmp .gt 1216, 3) := by decide +kernel
theorem dL_law_32 : decode cL_law 32 = .ok (.aload_n 0, 1) := by decide +kernel
theorem dL_law_33 : decode cL_law 33 = .ok (.iload 4, 2) := by decide +kernel
theorem dL_law_35 : decode cL_law 35 = .ok (.iaload, 1) := by decide +kernel
theorem dL_law_36 : decode cL_law 36 = .ok (.bipush 15, 2) := by decide +kernel
theorem dL_law_38 : decode cL_law 38 = .ok (.iand, 1) := by decide +kernel
theorem dL_law_39 : decode cL_law 39 = .ok (.tableswitch 1200 0 15 #[77, 145, 237, 328, 396, 464, 544, 612, 680, 748, 816, 884, 952, 1008, 1076, 1144], 77) := by decide +kernel
theorem dL_law_116 : decode cL_law 116 = .ok (.aload_n 1, 1) := by decide +kernel
theorem dL_law_117 : decode cL_law 117 = .ok (.aload_n 0, 1) := by decide +kernel
theorem dL_law_118 : decode cL_law 118 = .ok (.iload 4, 2) := by decide +kernel
theorem dL_law_120 : decode cL_law 120 = .ok (.iconst 1, 1) := by decide +kernel
theorem dL_law_121 : decode cL_law 121 = .ok (.iadd, 1) := by decide +kernel
theorem dL_law_122 : decode cL_law 122 = .ok (.iaload, 1) := by decide +kernel
theorem dL_law_123 : decode cL_law 123 = .ok (.aload_n 0, 1) := by decide +kernel
theorem dL_law_124 : decode cL_law 124 = .ok (.iload 4, 2) := by decide +kernel
theorem dL_law_126 : decode cL_law 126 = .ok (.iconst 2, 1) := by decide +kernel
theorem dL_law_127 : decode cL_law 127 = .ok (.iadd, 1) := by decide +kernel
theorem dL_law_128 : decode cL_law 128 = .ok (.iaload, 1) := by decide +kernel
theorem dL_law_129 : decode cL_law 129 = .ok (.aload_n 3, 1) := by decide +kernel
theorem dL_law_130 : decode cL_law 130 = .ok (.invokestatic 74, 3) := by decide +kernel
theorem dL_law_133 : decode cL_law 133 = .ok (.istore 5, 2) := by decide +kernel
theorem dL_law_135 : decode cL_law 135 = .ok (.aload_n 2, 1) := by decide +kernel
theorem dL_law_136 : decode cL_law 136 = .ok (.aload_n 0, 1) := by decide +kernel
theorem dL_law_137 : decode cL_law 137 = .ok (.iload 4, 2) := by decide +kernel
theorem dL_law_139 : decode cL_law 139 = .ok (.iconst 1, 1) := by decide +kernel
theorem dL_law_140 : decode cL_law 140 = .ok (.iadd, 1) := by decide +kernel
theorem dL_law_141 : decode cL_law 141 = .ok (.iaload, 1) := by decide +kernel
theorem dL_law_142 : decode cL_law 142 = .ok (.aload_n 0, 1) := by decide +kernel
theorem dL_law_143 : decode cL_law 143 = .ok (.iload 4, 2) := by decide +kernel
theorem dL_law_145 : decode cL_law 145 = .ok (.iconst 2, 1) := by decide +kernel
theorem dL_law_146 : decode cL_law 146 = .ok (.iadd, 1) := by decide +kernel
theorem dL_law_147 : decode cL_law 147 = .ok (.iaload, 1) := by decide +kernel
theorem dL_law_148 : decode cL_law 148 = .ok (.invokevirtual 79, 3) := by decide +kernel
theorem dL_law_151 : decode cL_law 151 = .ok (.istore 6, 2) := by decide +kernel
theorem dL_law_153 : decode cL_law 153 = .ok (.aload_n 2, 1) := by decide +kernel
theorem dL_law_154 : decode cL_law 154 = .ok (.invokevirtual 80, 3) := by decide +kernel
theorem dL_law_157 : decode cL_law 157 = .ok (.iload 5, 2) := by decide +kernel
theorem dL_law_159 : decode cL_law 159 = .ok (.if_icmp .eq 5, 3) := by decide +kernel
theorem dL_law_162 : decode cL_law 162 = .ok (.iconst 0, 1) := by decide +kernel
theorem dL_law_163 : decode cL_law 163 = .ok (.ireturn, 1) := by decide +kernel
theorem dL_law_164 : decode cL_law 164 = .ok (.iload 5, 2) := by decide +kernel
theorem dL_law_166 : decode cL_law 166 = .ok (.ifCond .ne 15, 3) := by decide +kernel
theorem dL_law_169 : decode cL_law 169 = .ok (.aload_n 3, 1) := by decide +kernel
theorem dL_law_170 : decode cL_law 170 = .ok (.iconst 0, 1) := by decide +kernel
theorem dL_law_171 : decode cL_law 171 = .ok (.laload, 1) := by decide +kernel
theorem dL_law_172 : decode cL_law 172 = .ok (.iload 6, 2) := by decide +kernel
theorem dL_law_174 : decode cL_law 174 = .ok (.i2l, 1) := by decide +kernel
theorem dL_law_175 : decode cL_law 175 = .ok (.lcmp, 1) := by decide +kernel
theorem dL_law_176 : decode cL_law 176 = .ok (.ifCond .eq 5, 3) := by decide +kernel
theorem dL_law_179 : decode cL_law 179 = .ok (.iconst 0, 1) := by decide +kernel
theorem dL_law_180 : decode cL_law 180 = .ok (.ireturn, 1) := by decide +kernel
theorem dL_law_181 : decode cL_law 181 = .ok (.goto 1058, 3) := by decide +kernel
theorem dL_law_184 : decode cL_law 184 = .ok (.aload_n 1, 1) := by decide +kernel
theorem dL_law_185 : decode cL_law 185 = .ok (.aload_n 0, 1) := by decide +kernel
theorem dL_law_186 : decode cL_law 186 = .ok (.iload 4, 2) := by decide +kernel
theorem dL_law_188 : decode cL_law 188 = .ok (.iconst 1, 1) := by decide +kernel
theorem dL_law_189 : decode cL_law 189 = .ok (.iadd, 1) := by decide +kernel
theorem dL_law_190 : decode cL_law 190 = .ok (.iaload, 1) := by decide +kernel
theorem dL_law_191 : decode cL_law 191 = .ok (.aload_n 0, 1) := by decide +kernel
theorem dL_law_192 : decode cL_law 192 = .ok (.iload 4, 2) := by decide +kernel
theorem dL_law_194 : decode cL_law 194 = .ok (.iconst 2, 1) := by decide +kernel
theorem dL_law_195 : decode cL_law 195 = .ok (.iadd, 1) := by decide +kernel
theorem dL_law_196 : decode cL_law 196 = .ok (.iaload, 1) := by decide +kernel
theorem dL_law_197 : decode cL_law 197 = .ok (.aload_n 0, 1) := by decide +kernel
theorem dL_law_198 : decode cL_law 198 = .ok (.iload 4, 2) := by decide +kernel
theorem dL_law_200 : decode cL_law 200 = .ok (.iconst 3, 1) := by decide +kernel
theorem dL_law_201 : decode cL_law 201 = .ok (.iadd, 1) := by decide +kernel
theorem dL_law_202 : decode cL_law 202 = .ok (.iaload, 1) := by decide +kernel
theorem dL_law_203 : decode cL_law 203 = .ok (.aload_n 0, 1) := by decide +kernel
theorem dL_law_204 : decode cL_law 204 = .ok (.iload 4, 2) := by decide +kernel
theorem dL_law_206 : decode cL_law 206 = .ok (.iconst 4, 1) := by decide +kernel
theorem dL_law_207 : decode cL_law 207 = .ok (.iadd, 1) := by decide +kernel
theorem dL_law_208 : decode cL_law 208 = .ok (.iaload, 1) := by decide +kernel
theorem dL_law_209 : decode cL_law 209 = .ok (.aload_n 3, 1) := by decide +kernel
theorem dL_law_210 : decode cL_law 210 = .ok (.invokestatic 84, 3) := by decide +kernel
theorem dL_law_213 : decode cL_law 213 = .ok (.istore 5, 2) := by decide +kernel
theorem dL_law_215 : decode cL_law 215 = .ok (.aload_n 2, 1) := by decide +kernel
theorem dL_law_216 : decode cL_law 216 = .ok (.aload_n 0, 1) := by decide +kernel
theorem dL_law_217 : decode cL_law 217 = .ok (.iload 4, 2) := by decide +kernel
theorem dL_law_219 : decode cL_law 219 = .ok (.iconst 1, 1) := by decide +kernel
theorem dL_law_220 : decode cL_law 220 = .ok (.iadd, 1) := by decide +kernel
theorem dL_law_221 : decode cL_law 221 = .ok (.iaload, 1) := by decide +kernel
theorem dL_law_222 : decode cL_law 222 = .ok (.aload_n 0, 1) := by decide +kernel
theorem dL_law_223 : decode cL_law 223 = .ok (.iload 4, 2) := by decide +kernel
theorem dL_law_225 : decode cL_law 225 = .ok (.iconst 2, 1) := by decide +kernel
theorem dL_law_226 : decode cL_law 226 = .ok (.iadd, 1) := by decide +kernel
theorem dL_law_227 : decode cL_law 227 = .ok (.iaload, 1) := by decide +kernel
theorem dL_law_228 : decode cL_law 228 = .ok (.aload_n 0, 1) := by decide +kernel
theorem dL_law_229 : decode cL_law 229 = .ok (.iload 4, 2) := by decide +kernel
theorem dL_law_231 : decode cL_law 231 = .ok (.iconst 3, 1) := by decide +kernel
theorem dL_law_232 : decode cL_law 232 = .ok (.iadd, 1) := by decide +kernel
theorem dL_law_233 : decode cL_law 233 = .ok (.iaload, 1) := by decide +kernel
theorem dL_law_234 : decode cL_law 234 = .ok (.aload_n 0, 1) := by decide +kernel
theorem dL_law_235 : decode cL_law 235 = .ok (.iload 4, 2) := by decide +kernel
theorem dL_law_237 : decode cL_law 237 = .ok (.iconst 4, 1) := by decide +kernel
theorem dL_law_238 : decode cL_law 238 = .ok (.iadd, 1) := by decide +kernel
theorem dL_law_239 : decode cL_law 239 = .ok (.iaload, 1) := by decide +kernel
theorem dL_law_240 : decode cL_law 240 = .ok (.invokevirtual 87, 3) := by decide +kernel
theorem dL_law_243 : decode cL_law 243 = .ok (.istore 6, 2) := by decide +kernel
theorem dL_law_245 : decode cL_law 245 = .ok (.aload_n 2, 1) := by decide +kernel
theorem dL_law_246 : decode cL_law 246 = .ok (.invokevirtual 80, 3) := by decide +kernel
theorem dL_law_249 : decode cL_law 249 = .ok (.iload 5, 2) := by decide +kernel
theorem dL_law_251 : decode cL_law 251 = .ok (.if_icmp .eq 5, 3) := by decide +kernel
theorem dL_law_254 : decode cL_law 254 = .ok (.iconst 0, 1) := by decide +kernel
theorem dL_law_255 : decode cL_law 255 = .ok (.ireturn, 1) := by decide +kernel
theorem dL_law_256 : decode cL_law 256 = .ok (.iload 5, 2) := by decide +kernel
theorem dL_law_258 : decode cL_law 258 = .ok (.ifCond .ne 15, 3) := by decide +kernel
theorem dL_law_261 : decode cL_law 261 = .ok (.aload_n 3, 1) := by decide +kernel
theorem dL_law_262 : decode cL_law 262 = .ok (.iconst 0, 1) := by decide +kernel
theorem dL_law_263 : decode cL_law 263 = .ok (.laload, 1) := by decide +kernel
theorem dL_law_264 : decode cL_law 264 = .ok (.iload 6, 2) := by decide +kernel
theorem dL_law_266 : decode cL_law 266 = .ok (.i2l, 1) := by decide +kernel
theorem dL_law_267 : decode cL_law 267 = .ok (.lcmp, 1) := by decide +kernel
theorem dL_law_268 : decode cL_law 268 = .ok (.ifCond .eq 5, 3) := by decide +kernel
theorem dL_law_271 : decode cL_law 271 = .ok (.iconst 0, 1) := by decide +kernel
theorem dL_law_272 : decode cL_law 272 = .ok (.ireturn, 1) := by decide +kernel
theorem dL_law_273 : decode cL_law 273 = .ok (.goto 966, 3) := by decide +kernel
theorem dL_law_276 : decode cL_law 276 = .ok (.aload_n 1, 1) := by decide +kernel
theorem dL_law_277 : decode cL_law 277 = .ok (.aload_n 0, 1) := by decide +kernel
theorem dL_law_278 : decode cL_law 278 = .ok (.iload 4, 2) := by decide +kernel
theorem dL_law_280 : decode cL_law 280 = .ok (.iconst 1, 1) := by decide +kernel
theorem dL_law_281 : decode cL_law 281 = .ok (.iadd, 1) := by decide +kernel
theorem dL_law_282 : decode cL_law 282 = .ok (.iaload, 1) := by decide +kernel
theorem dL_law_283 : decode cL_law 283 = .ok (.aload_n 0, 1) := by decide +kernel
theorem dL_law_284 : decode cL_law 284 = .ok (.iload 4, 2) := by decide +kernel
theorem dL_law_286 : decode cL_law 286 = .ok (.iconst 2, 1) := by decide +kernel
theorem dL_law_287 : decode cL_law 287 = .ok (.iadd, 1) := by decide +kernel
theorem dL_law_288 : decode cL_law 288 = .ok (.iaload, 1) := by decide +kernel
theorem dL_law_289 : decode cL_law 289 = .ok (.ifCond .eq 7, 3) := by decide +kernel
theorem dL_law_292 : decode cL_law 292 = .ok (.iconst 1, 1) := by decide +kernel
theorem dL_law_293 : decode cL_law 293 = .ok (.goto 4, 3) := by decide +kernel
theorem dL_law_296 : decode cL_law 296 = .ok (.iconst 0, 1) := by decide +kernel
theorem dL_law_297 : decode cL_law 297 = .ok (.aload_n 3, 1) := by decide +kernel
theorem dL_law_298 : decode cL_law 298 = .ok (.invokestatic 88, 3) := by decide +kernel
theorem dL_law_301 : decode cL_law 301 = .ok (.istore 5, 2) := by decide +kernel
theorem dL_law_303 : decode cL_law 303 = .ok (.aload_n 2, 1) := by decide +kernel
theorem dL_law_304 : decode cL_law 304 = .ok (.aload_n 0, 1) := by decide +kernel
theorem dL_law_305 : decode cL_law 305 = .ok (.iload 4, 2) := by decide +kernel
theorem dL_law_307 : decode cL_law 307 = .ok (.iconst 1, 1) := by decide +kernel
theorem dL_law_308 : decode cL_law 308 = .ok (.iadd, 1) := by decide +kernel
theorem dL_law_309 : decode cL_law 309 = .ok (.iaload, 1) := by decide +kernel
theorem dL_law_310 : decode cL_law 310 = .ok (.aload_n 0, 1) := by decide +kernel
theorem dL_law_311 : decode cL_law 311 = .ok (.iload 4, 2) := by decide +kernel
theorem dL_law_313 : decode cL_law 313 = .ok (.iconst 2, 1) := by decide +kernel
theorem dL_law_314 : decode cL_law 314 = .ok (.iadd, 1) := by decide +kernel
theorem dL_law_315 : decode cL_law 315 = .ok (.iaload, 1) := by decide +kernel
theorem dL_law_316 : decode cL_law 316 = .ok (.ifCond .eq 7, 3) := by decide +kernel
theorem dL_law_319 : decode cL_law 319 = .ok (.iconst 1, 1) := by decide +kernel
theorem dL_law_320 : decode cL_law 320 = .ok (.goto 4, 3) := by decide +kernel
theorem dL_law_323 : decode cL_law 323 = .ok (.iconst 0, 1) := by decide +kernel
theorem dL_law_324 : decode cL_law 324 = .ok (.invokevirtual 91, 3) := by decide +kernel
theorem dL_law_327 : decode cL_law 327 = .ok (.istore 6, 2) := by decide +kernel
theorem dL_law_329 : decode cL_law 329 = .ok (.aload_n 2, 1) := by decide +kernel
theorem dL_law_330 : decode cL_law 330 = .ok (.invokevirtual 80, 3) := by decide +kernel
theorem dL_law_333 : decode cL_law 333 = .ok (.iload 5, 2) := by decide +kernel
theorem dL_law_335 : decode cL_law 335 = .ok (.if_icmp .eq 5, 3) := by decide +kernel
theorem dL_law_338 : decode cL_law 338 = .ok (.iconst 0, 1) := by decide +kernel
theorem dL_law_339 : decode cL_law 339 = .ok (.ireturn, 1) := by decide +kernel
theorem dL_law_340 : decode cL_law 340 = .ok (.iload 5, 2) := by decide +kernel
theorem dL_law_342 : decode cL_law 342 = .ok (.ifCond .ne 22, 3) := by decide +kernel
theorem dL_law_345 : decode cL_law 345 = .ok (.aload_n 3, 1) := by decide +kernel
theorem dL_law_346 : decode cL_law 346 = .ok (.iconst 0, 1) := by decide +kernel
theorem dL_law_347 : decode cL_law 347 = .ok (.laload, 1) := by decide +kernel
theorem dL_law_348 : decode cL_law 348 = .ok (.iload 6, 2) := by decide +kernel
theorem dL_law_350 : decode cL_law 350 = .ok (.ifCond .eq 7, 3) := by decide +kernel
theorem dL_law_353 : decode cL_law 353 = .ok (.lconst 1, 1) := by decide +kernel
theorem dL_law_354 : decode cL_law 354 = .ok (.goto 4, 3) := by decide +kernel
theorem dL_law_357 : decode cL_law 357 = .ok (.lconst 0, 1) := by decide +kernel
theorem dL_law_358 : decode cL_law 358 = .ok (.lcmp, 1) := by decide +kernel
theorem dL_law_359 : decode cL_law 359 = .ok (.ifCond .eq 5, 3) := by decide +kernel
theorem dL_law_362 : decode cL_law 362 = .ok (.iconst 0, 1) := by decide +kernel
theorem dL_law_363 : decode cL_law 363 = .ok (.ireturn, 1) := by decide +kernel
theorem dL_law_364 : decode cL_law 364 = .ok (.goto 875, 3) := by decide +kernel
theorem dL_law_367 : decode cL_law 367 = .ok (.aload_n 1, 1) := by decide +kernel
theorem dL_law_368 : decode cL_law 368 = .ok (.aload_n 0, 1) := by decide +kernel
theorem dL_law_369 : decode cL_law 369 = .ok (.iload 4, 2) := by decide +kernel
theorem dL_law_371 : decode cL_law 371 = .ok (.iconst 1, 1) := by decide +kernel
theorem dL_law_372 : decode cL_law 372 = .ok (.iadd, 1) := by decide +kernel
theorem dL_law_373 : decode cL_law 373 = .ok (.iaload, 1) := by decide +kernel
theorem dL_law_374 : decode cL_law 374 = .ok (.aload_n 0, 1) := by decide +kernel
theorem dL_law_375 : decode cL_law 375 = .ok (.iload 4, 2) := by decide +kernel
theorem dL_law_377 : decode cL_law 377 = .ok (.iconst 2, 1) := by decide +kernel
theorem dL_law_378 : decode cL_law 378 = .ok (.iadd, 1) := by decide +kernel
theorem dL_law_379 : decode cL_law 379 = .ok (.iaload, 1) := by decide +kernel
theorem dL_law_380 : decode cL_law 380 = .ok (.aload_n 3, 1) := by decide +kernel
theorem dL_law_381 : decode cL_law 381 = .ok (.invokestatic 92, 3) := by decide +kernel
theorem dL_law_384 : decode cL_law 384 = .ok (.istore 5, 2) := by decide +kernel
theorem dL_law_386 : decode cL_law 386 = .ok (.aload_n 2, 1) := by decide +kernel
theorem dL_law_387 : decode cL_law 387 = .ok (.aload_n 0, 1) := by decide +kernel
theorem dL_law_388 : decode cL_law 388 = .ok (.iload 4, 2) := by decide +kernel
theorem dL_law_390 : decode cL_law 390 = .ok (.iconst 1, 1) := by decide +kernel
theorem dL_law_391 : decode cL_law 391 = .ok (.iadd, 1) := by decide +kernel
theorem dL_law_392 : decode cL_law 392 = .ok (.iaload, 1) := by decide +kernel
theorem dL_law_393 : decode cL_law 393 = .ok (.aload_n 0, 1) := by decide +kernel
theorem dL_law_394 : decode cL_law 394 = .ok (.iload 4, 2) := by decide +kernel
theorem dL_law_396 : decode cL_law 396 = .ok (.iconst 2, 1) := by decide +kernel
theorem dL_law_397 : decode cL_law 397 = .ok (.iadd, 1) := by decide +kernel
theorem dL_law_398 : decode cL_law 398 = .ok (.iaload, 1) := by decide +kernel
theorem dL_law_399 : decode cL_law 399 = .ok (.invokevirtual 94, 3) := by decide +kernel
theorem dL_law_402 : decode cL_law 402 = .ok (.istore 6, 2) := by decide +kernel
theorem dL_law_404 : decode cL_law 404 = .ok (.aload_n 2, 1) := by decide +kernel
theorem dL_law_405 : decode cL_law 405 = .ok (.invokevirtual 80, 3) := by decide +kernel
theorem dL_law_408 : decode cL_law 408 = .ok (.iload 5, 2) := by decide +kernel
theorem dL_law_410 : decode cL_law 410 = .ok (.if_icmp .eq 5, 3) := by decide +kernel
theorem dL_law_413 : decode cL_law 413 = .ok (.iconst 0, 1) := by decide +kernel
theorem dL_law_414 : decode cL_law 414 = .ok (.ireturn, 1) := by decide +kernel
theorem dL_law_415 : decode cL_law 415 = .ok (.iload 5, 2) := by decide +kernel
theorem dL_law_417 : decode cL_law 417 = .ok (.ifCond .ne 15, 3) := by decide +kernel
theorem dL_law_420 : decode cL_law 420 = .ok (.aload_n 3, 1) := by decide +kernel
theorem dL_law_421 : decode cL_law 421 = .ok (.iconst 0, 1) := by decide +kernel
theorem dL_law_422 : decode cL_law 422 = .ok (.laload, 1) := by decide +kernel
theorem dL_law_423 : decode cL_law 423 = .ok (.iload 6, 2) := by decide +kernel
theorem dL_law_425 : decode cL_law 425 = .ok (.i2l, 1) := by decide +kernel
theorem dL_law_426 : decode cL_law 426 = .ok (.lcmp, 1) := by decide +kernel
theorem dL_law_427 : decode cL_law 427 = .ok (.ifCond .eq 5, 3) := by decide +kernel
theorem dL_law_430 : decode cL_law 430 = .ok (.iconst 0, 1) := by decide +kernel
theorem dL_law_431 : decode cL_law 431 = .ok (.ireturn, 1) := by decide +kernel
theorem dL_law_432 : decode cL_law 432 = .ok (.goto 807, 3) := by decide +kernel
theorem dL_law_435 : decode cL_law 435 = .ok (.aload_n 1, 1) := by decide +kernel
theorem dL_law_436 : decode cL_law 436 = .ok (.aload_n 0, 1) := by decide +kernel
theorem dL_law_437 : decode cL_law 437 = .ok (.iload 4, 2) := by decide +kernel
theorem dL_law_439 : decode cL_law 439 = .ok (.iconst 1, 1) := by decide +kernel
theorem dL_law_440 : decode cL_law 440 = .ok (.iadd, 1) := by decide +kernel
theorem dL_law_441 : decode cL_law 441 = .ok (.iaload, 1) := by decide +kernel
theorem dL_law_442 : decode cL_law 442 = .ok (.aload_n 0, 1) := by decide +kernel
theorem dL_law_443 : decode cL_law 443 = .ok (.iload 4, 2) := by decide +kernel
theorem dL_law_445 : decode cL_law 445 = .ok (.iconst 2, 1) := by decide +kernel
theorem dL_law_446 : decode cL_law 446 = .ok (.iadd, 1) := by decide +kernel
theorem dL_law_447 : decode cL_law 447 = .ok (.iaload, 1) := by decide +kernel
theorem dL_law_448 : decode cL_law 448 = .ok (.aload_n 3, 1) := by decide +kernel
theorem dL_law_449 : decode cL_law 449 = .ok (.invokestatic 95, 3) := by decide +kernel
theorem dL_law_452 : decode cL_law 452 = .ok (.istore 5, 2) := by decide +kernel
theorem dL_law_454 : decode cL_law 454 = .ok (.aload_n 2, 1) := by decide +kernel
theorem dL_law_455 : decode cL_law 455 = .ok (.aload_n 0, 1) := by decide +kernel
theorem dL_law_456 : decode cL_law 456 = .ok (.iload 4, 2) := by decide +kernel
theorem dL_law_458 : decode cL_law 458 = .ok (.iconst 1, 1) := by decide +kernel
theorem dL_law_459 : decode cL_law 459 = .ok (.iadd, 1) := by decide +kernel
theorem dL_law_460 : decode cL_law 460 = .ok (.iaload, 1) := by decide +kernel
theorem dL_law_461 : decode cL_law 461 = .ok (.aload_n 0, 1) := by decide +kernel
theorem dL_law_462 : decode cL_law 462 = .ok (.iload 4, 2) := by decide +kernel
theorem dL_law_464 : decode cL_law 464 = .ok (.iconst 2, 1) := by decide +kernel
theorem dL_law_465 : decode cL_law 465 = .ok (.iadd, 1) := by decide +kernel
theorem dL_law_466 : decode cL_law 466 = .ok (.iaload, 1) := by decide +kernel
theorem dL_law_467 : decode cL_law 467 = .ok (.invokevirtual 97, 3) := by decide +kernel
theorem dL_law_470 : decode cL_law 470 = .ok (.istore 6, 2) := by decide +kernel
theorem dL_law_472 : decode cL_law 472 = .ok (.aload_n 2, 1) := by decide +kernel
theorem dL_law_473 : decode cL_law 473 = .ok (.invokevirtual 80, 3) := by decide +kernel
theorem dL_law_476 : decode cL_law 476 = .ok (.iload 5, 2) := by decide +kernel
theorem dL_law_478 : decode cL_law 478 = .ok (.if_icmp .eq 5, 3) := by decide +kernel
theorem dL_law_481 : decode cL_law 481 = .ok (.iconst 0, 1) := by decide +kernel
theorem dL_law_482 : decode cL_law 482 = .ok (.ireturn, 1) := by decide +kernel
theorem dL_law_483 : decode cL_law 483 = .ok (.iload 5, 2) := by decide +kernel
theorem dL_law_485 : decode cL_law 485 = .ok (.ifCond .ne 15, 3) := by decide +kernel
theorem dL_law_488 : decode cL_law 488 = .ok (.aload_n 3, 1) := by decide +kernel
theorem dL_law_489 : decode cL_law 489 = .ok (.iconst 0, 1) := by decide +kernel
theorem dL_law_490 : decode cL_law 490 = .ok (.laload, 1) := by decide +kernel
theorem dL_law_491 : decode cL_law 491 = .ok (.iload 6, 2) := by decide +kernel
theorem dL_law_493 : decode cL_law 493 = .ok (.i2l, 1) := by decide +kernel
theorem dL_law_494 : decode cL_law 494 = .ok (.lcmp, 1) := by decide +kernel
theorem dL_law_495 : decode cL_law 495 = .ok (.ifCond .eq 5, 3) := by decide +kernel
theorem dL_law_498 : decode cL_law 498 = .ok (.iconst 0, 1) := by decide +kernel
theorem dL_law_499 : decode cL_law 499 = .ok (.ireturn, 1) := by decide +kernel
theorem dL_law_500 : decode cL_law 500 = .ok (.goto 739, 3) := by decide +kernel
theorem dL_law_503 : decode cL_law 503 = .ok (.aload_n 1, 1) := by decide +kernel
theorem dL_law_504 : decode cL_law 504 = .ok (.aload_n 0, 1) := by decide +kernel
theorem dL_law_505 : decode cL_law 505 = .ok (.iload 4, 2) := by decide +kernel
theorem dL_law_507 : decode cL_law 507 = .ok (.iconst 1, 1) := by decide +kernel
theorem dL_law_508 : decode cL_law 508 = .ok (.iadd, 1) := by decide +kernel
theorem dL_law_509 : decode cL_law 509 = .ok (.iaload, 1) := by decide +kernel
theorem dL_law_510 : decode cL_law 510 = .ok (.aload_n 0, 1) := by decide +kernel
theorem dL_law_511 : decode cL_law 511 = .ok (.iload 4, 2) := by decide +kernel
theorem dL_law_513 : decode cL_law 513 = .ok (.iconst 2, 1) := by decide +kernel
theorem dL_law_514 : decode cL_law 514 = .ok (.iadd, 1) := by decide +kernel
theorem dL_law_515 : decode cL_law 515 = .ok (.iaload, 1) := by decide +kernel
theorem dL_law_516 : decode cL_law 516 = .ok (.aload_n 0, 1) := by decide +kernel
theorem dL_law_517 : decode cL_law 517 = .ok (.iload 4, 2) := by decide +kernel
theorem dL_law_519 : decode cL_law 519 = .ok (.iconst 3, 1) := by decide +kernel
theorem dL_law_520 : decode cL_law 520 = .ok (.iadd, 1) := by decide +kernel
theorem dL_law_521 : decode cL_law 521 = .ok (.iaload, 1) := by decide +kernel
theorem dL_law_522 : decode cL_law 522 = .ok (.aload_n 3, 1) := by decide +kernel
theorem dL_law_523 : decode cL_law 523 = .ok (.invokestatic 98, 3) := by decide +kernel
theorem dL_law_526 : decode cL_law 526 = .ok (.istore 5, 2) := by decide +kernel
theorem dL_law_528 : decode cL_law 528 = .ok (.aload_n 2, 1) := by decide +kernel
theorem dL_law_529 : decode cL_law 529 = .ok (.aload_n 0, 1) := by decide +kernel
theorem dL_law_530 : decode cL_law 530 = .ok (.iload 4, 2) := by decide +kernel
theorem dL_law_532 : decode cL_law 532 = .ok (.iconst 1, 1) := by decide +kernel
theorem dL_law_533 : decode cL_law 533 = .ok (.iadd, 1) := by decide +kernel
theorem dL_law_534 : decode cL_law 534 = .ok (.iaload, 1) := by decide +kernel
theorem dL_law_535 : decode cL_law 535 = .ok (.aload_n 0, 1) := by decide +kernel
theorem dL_law_536 : decode cL_law 536 = .ok (.iload 4, 2) := by decide +kernel
theorem dL_law_538 : decode cL_law 538 = .ok (.iconst 2, 1) := by decide +kernel
theorem dL_law_539 : decode cL_law 539 = .ok (.iadd, 1) := by decide +kernel
theorem dL_law_540 : decode cL_law 540 = .ok (.iaload, 1) := by decide +kernel
theorem dL_law_541 : decode cL_law 541 = .ok (.aload_n 0, 1) := by decide +kernel
theorem dL_law_542 : decode cL_law 542 = .ok (.iload 4, 2) := by decide +kernel
theorem dL_law_544 : decode cL_law 544 = .ok (.iconst 3, 1) := by decide +kernel
theorem dL_law_545 : decode cL_law 545 = .ok (.iadd, 1) := by decide +kernel
theorem dL_law_546 : decode cL_law 546 = .ok (.iaload, 1) := by decide +kernel
theorem dL_law_547 : decode cL_law 547 = .ok (.invokevirtual 101, 3) := by decide +kernel
theorem dL_law_550 : decode cL_law 550 = .ok (.istore 6, 2) := by decide +kernel
theorem dL_law_552 : decode cL_law 552 = .ok (.aload_n 2, 1) := by decide +kernel
theorem dL_law_553 : decode cL_law 553 = .ok (.invokevirtual 80, 3) := by decide +kernel
theorem dL_law_556 : decode cL_law 556 = .ok (.iload 5, 2) := by decide +kernel
theorem dL_law_558 : decode cL_law 558 = .ok (.if_icmp .eq 5, 3) := by decide +kernel
theorem dL_law_561 : decode cL_law 561 = .ok (.iconst 0, 1) := by decide +kernel
theorem dL_law_562 : decode cL_law 562 = .ok (.ireturn, 1) := by decide +kernel
theorem dL_law_563 : decode cL_law 563 = .ok (.iload 5, 2) := by decide +kernel
theorem dL_law_565 : decode cL_law 565 = .ok (.ifCond .ne 15, 3) := by decide +kernel
theorem dL_law_568 : decode cL_law 568 = .ok (.aload_n 3, 1) := by decide +kernel
theorem dL_law_569 : decode cL_law 569 = .ok (.iconst 0, 1) := by decide +kernel
theorem dL_law_570 : decode cL_law 570 = .ok (.laload, 1) := by decide +kernel
theorem dL_law_571 : decode cL_law 571 = .ok (.iload 6, 2) := by decide +kernel
theorem dL_law_573 : decode cL_law 573 = .ok (.i2l, 1) := by decide +kernel
theorem dL_law_574 : decode cL_law 574 = .ok (.lcmp, 1) := by decide +kernel
theorem dL_law_575 : decode cL_law 575 = .ok (.ifCond .eq 5, 3) := by decide +kernel
theorem dL_law_578 : decode cL_law 578 = .ok (.iconst 0, 1) := by decide +kernel
theorem dL_law_579 : decode cL_law 579 = .ok (.ireturn, 1) := by decide +kernel
theorem dL_law_580 : decode cL_law 580 = .ok (.goto 659, 3) := by decide +kernel
theorem dL_law_583 : decode cL_law 583 = .ok (.aload_n 1, 1) := by decide +kernel
theorem dL_law_584 : decode cL_law 584 = .ok (.aload_n 0, 1) := by decide +kernel
theorem dL_law_585 : decode cL_law 585 = .ok (.iload 4, 2) := by decide +kernel
theorem dL_law_587 : decode cL_law 587 = .ok (.iconst 1, 1) := by decide +kernel
theorem dL_law_588 : decode cL_law 588 = .ok (.iadd, 1) := by decide +kernel
theorem dL_law_589 : decode cL_law 589 = .ok (.iaload, 1) := by decide +kernel
theorem dL_law_590 : decode cL_law 590 = .ok (.aload_n 0, 1) := by decide +kernel
theorem dL_law_591 : decode cL_law 591 = .ok (.iload 4, 2) := by decide +kernel
theorem dL_law_593 : decode cL_law 593 = .ok (.iconst 2, 1) := by decide +kernel
theorem dL_law_594 : decode cL_law 594 = .ok (.iadd, 1) := by decide +kernel
theorem dL_law_595 : decode cL_law 595 = .ok (.iaload, 1) := by decide +kernel
theorem dL_law_596 : decode cL_law 596 = .ok (.aload_n 3, 1) := by decide +kernel
theorem dL_law_597 : decode cL_law 597 = .ok (.invokestatic 102, 3) := by decide +kernel
theorem dL_law_600 : decode cL_law 600 = .ok (.istore 5, 2) := by decide +kernel
theorem dL_law_602 : decode cL_law 602 = .ok (.aload_n 2, 1) := by decide +kernel
theorem dL_law_603 : decode cL_law 603 = .ok (.aload_n 0, 1) := by decide +kernel
theorem dL_law_604 : decode cL_law 604 = .ok (.iload 4, 2) := by decide +kernel
theorem dL_law_606 : decode cL_law 606 = .ok (.iconst 1, 1) := by decide +kernel
theorem dL_law_607 : decode cL_law 607 = .ok (.iadd, 1) := by decide +kernel
theorem dL_law_608 : decode cL_law 608 = .ok (.iaload, 1) := by decide +kernel
theorem dL_law_609 : decode cL_law 609 = .ok (.aload_n 0, 1) := by decide +kernel
theorem dL_law_610 : decode cL_law 610 = .ok (.iload 4, 2) := by decide +kernel
theorem dL_law_612 : decode cL_law 612 = .ok (.iconst 2, 1) := by decide +kernel
theorem dL_law_613 : decode cL_law 613 = .ok (.iadd, 1) := by decide +kernel
theorem dL_law_614 : decode cL_law 614 = .ok (.iaload, 1) := by decide +kernel
theorem dL_law_615 : decode cL_law 615 = .ok (.invokevirtual 104, 3) := by decide +kernel
theorem dL_law_618 : decode cL_law 618 = .ok (.istore 6, 2) := by decide +kernel
theorem dL_law_620 : decode cL_law 620 = .ok (.aload_n 2, 1) := by decide +kernel
theorem dL_law_621 : decode cL_law 621 = .ok (.invokevirtual 80, 3) := by decide +kernel
theorem dL_law_624 : decode cL_law 624 = .ok (.iload 5, 2) := by decide +kernel
theorem dL_law_626 : decode cL_law 626 = .ok (.if_icmp .eq 5, 3) := by decide +kernel
theorem dL_law_629 : decode cL_law 629 = .ok (.iconst 0, 1) := by decide +kernel
theorem dL_law_630 : decode cL_law 630 = .ok (.ireturn, 1) := by decide +kernel
theorem dL_law_631 : decode cL_law 631 = .ok (.iload 5, 2) := by decide +kernel
theorem dL_law_633 : decode cL_law 633 = .ok (.ifCond .ne 15, 3) := by decide +kernel
theorem dL_law_636 : decode cL_law 636 = .ok (.aload_n 3, 1) := by decide +kernel
theorem dL_law_637 : decode cL_law 637 = .ok (.iconst 0, 1) := by decide +kernel
theorem dL_law_638 : decode cL_law 638 = .ok (.laload, 1) := by decide +kernel
theorem dL_law_639 : decode cL_law 639 = .ok (.iload 6, 2) := by decide +kernel
theorem dL_law_641 : decode cL_law 641 = .ok (.i2l, 1) := by decide +kernel
theorem dL_law_642 : decode cL_law 642 = .ok (.lcmp, 1) := by decide +kernel
theorem dL_law_643 : decode cL_law 643 = .ok (.ifCond .eq 5, 3) := by decide +kernel
theorem dL_law_646 : decode cL_law 646 = .ok (.iconst 0, 1) := by decide +kernel
theorem dL_law_647 : decode cL_law 647 = .ok (.ireturn, 1) := by decide +kernel
theorem dL_law_648 : decode cL_law 648 = .ok (.goto 591, 3) := by decide +kernel
theorem dL_law_651 : decode cL_law 651 = .ok (.aload_n 1, 1) := by decide +kernel
theorem dL_law_652 : decode cL_law 652 = .ok (.aload_n 0, 1) := by decide +kernel
theorem dL_law_653 : decode cL_law 653 = .ok (.iload 4, 2) := by decide +kernel
theorem dL_law_655 : decode cL_law 655 = .ok (.iconst 1, 1) := by decide +kernel
theorem dL_law_656 : decode cL_law 656 = .ok (.iadd, 1) := by decide +kernel
theorem dL_law_657 : decode cL_law 657 = .ok (.iaload, 1) := by decide +kernel
theorem dL_law_658 : decode cL_law 658 = .ok (.aload_n 0, 1) := by decide +kernel
theorem dL_law_659 : decode cL_law 659 = .ok (.iload 4, 2) := by decide +kernel
theorem dL_law_661 : decode cL_law 661 = .ok (.iconst 2, 1) := by decide +kernel
theorem dL_law_662 : decode cL_law 662 = .ok (.iadd, 1) := by decide +kernel
theorem dL_law_663 : decode cL_law 663 = .ok (.iaload, 1) := by decide +kernel
theorem dL_law_664 : decode cL_law 664 = .ok (.aload_n 3, 1) := by decide +kernel
theorem dL_law_665 : decode cL_law 665 = .ok (.invokestatic 105, 3) := by decide +kernel
theorem dL_law_668 : decode cL_law 668 = .ok (.istore 5, 2) := by decide +kernel
theorem dL_law_670 : decode cL_law 670 = .ok (.aload_n 2, 1) := by decide +kernel
theorem dL_law_671 : decode cL_law 671 = .ok (.aload_n 0, 1) := by decide +kernel
theorem dL_law_672 : decode cL_law 672 = .ok (.iload 4, 2) := by decide +kernel
theorem dL_law_674 : decode cL_law 674 = .ok (.iconst 1, 1) := by decide +kernel
theorem dL_law_675 : decode cL_law 675 = .ok (.iadd, 1) := by decide +kernel
theorem dL_law_676 : decode cL_law 676 = .ok (.iaload, 1) := by decide +kernel
theorem dL_law_677 : decode cL_law 677 = .ok (.aload_n 0, 1) := by decide +kernel
theorem dL_law_678 : decode cL_law 678 = .ok (.iload 4, 2) := by decide +kernel
theorem dL_law_680 : decode cL_law 680 = .ok (.iconst 2, 1) := by decide +kernel
theorem dL_law_681 : decode cL_law 681 = .ok (.iadd, 1) := by decide +kernel
theorem dL_law_682 : decode cL_law 682 = .ok (.iaload, 1) := by decide +kernel
theorem dL_law_683 : decode cL_law 683 = .ok (.invokevirtual 107, 3) := by decide +kernel
theorem dL_law_686 : decode cL_law 686 = .ok (.istore 6, 2) := by decide +kernel
theorem dL_law_688 : decode cL_law 688 = .ok (.aload_n 2, 1) := by decide +kernel
theorem dL_law_689 : decode cL_law 689 = .ok (.invokevirtual 80, 3) := by decide +kernel
theorem dL_law_692 : decode cL_law 692 = .ok (.iload 5, 2) := by decide +kernel
theorem dL_law_694 : decode cL_law 694 = .ok (.if_icmp .eq 5, 3) := by decide +kernel
theorem dL_law_697 : decode cL_law 697 = .ok (.iconst 0, 1) := by decide +kernel
theorem dL_law_698 : decode cL_law 698 = .ok (.ireturn, 1) := by decide +kernel
theorem dL_law_699 : decode cL_law 699 = .ok (.iload 5, 2) := by decide +kernel
theorem dL_law_701 : decode cL_law 701 = .ok (.ifCond .ne 15, 3) := by decide +kernel
theorem dL_law_704 : decode cL_law 704 = .ok (.aload_n 3, 1) := by decide +kernel
theorem dL_law_705 : decode cL_law 705 = .ok (.iconst 0, 1) := by decide +kernel
theorem dL_law_706 : decode cL_law 706 = .ok (.laload, 1) := by decide +kernel
theorem dL_law_707 : decode cL_law 707 = .ok (.iload 6, 2) := by decide +kernel
theorem dL_law_709 : decode cL_law 709 = .ok (.i2l, 1) := by decide +kernel
theorem dL_law_710 : decode cL_law 710 = .ok (.lcmp, 1) := by decide +kernel
theorem dL_law_711 : decode cL_law 711 = .ok (.ifCond .eq 5, 3) := by decide +kernel
theorem dL_law_714 : decode cL_law 714 = .ok (.iconst 0, 1) := by decide +kernel
theorem dL_law_715 : decode cL_law 715 = .ok (.ireturn, 1) := by decide +kernel
theorem dL_law_716 : decode cL_law 716 = .ok (.goto 523, 3) := by decide +kernel
theorem dL_law_719 : decode cL_law 719 = .ok (.aload_n 1, 1) := by decide +kernel
theorem dL_law_720 : decode cL_law 720 = .ok (.aload_n 0, 1) := by decide +kernel
theorem dL_law_721 : decode cL_law 721 = .ok (.iload 4, 2) := by decide +kernel
theorem dL_law_723 : decode cL_law 723 = .ok (.iconst 1, 1) := by decide +kernel
theorem dL_law_724 : decode cL_law 724 = .ok (.iadd, 1) := by decide +kernel
theorem dL_law_725 : decode cL_law 725 = .ok (.iaload, 1) := by decide +kernel
theorem dL_law_726 : decode cL_law 726 = .ok (.aload_n 0, 1) := by decide +kernel
theorem dL_law_727 : decode cL_law 727 = .ok (.iload 4, 2) := by decide +kernel
theorem dL_law_729 : decode cL_law 729 = .ok (.iconst 2, 1) := by decide +kernel
theorem dL_law_730 : decode cL_law 730 = .ok (.iadd, 1) := by decide +kernel
theorem dL_law_731 : decode cL_law 731 = .ok (.iaload, 1) := by decide +kernel
theorem dL_law_732 : decode cL_law 732 = .ok (.aload_n 3, 1) := by decide +kernel
theorem dL_law_733 : decode cL_law 733 = .ok (.invokestatic 108, 3) := by decide +kernel
theorem dL_law_736 : decode cL_law 736 = .ok (.istore 5, 2) := by decide +kernel
theorem dL_law_738 : decode cL_law 738 = .ok (.aload_n 2, 1) := by decide +kernel
theorem dL_law_739 : decode cL_law 739 = .ok (.aload_n 0, 1) := by decide +kernel
theorem dL_law_740 : decode cL_law 740 = .ok (.iload 4, 2) := by decide +kernel
theorem dL_law_742 : decode cL_law 742 = .ok (.iconst 1, 1) := by decide +kernel
theorem dL_law_743 : decode cL_law 743 = .ok (.iadd, 1) := by decide +kernel
theorem dL_law_744 : decode cL_law 744 = .ok (.iaload, 1) := by decide +kernel
theorem dL_law_745 : decode cL_law 745 = .ok (.aload_n 0, 1) := by decide +kernel
theorem dL_law_746 : decode cL_law 746 = .ok (.iload 4, 2) := by decide +kernel
theorem dL_law_748 : decode cL_law 748 = .ok (.iconst 2, 1) := by decide +kernel
theorem dL_law_749 : decode cL_law 749 = .ok (.iadd, 1) := by decide +kernel
theorem dL_law_750 : decode cL_law 750 = .ok (.iaload, 1) := by decide +kernel
theorem dL_law_751 : decode cL_law 751 = .ok (.invokevirtual 110, 3) := by decide +kernel
theorem dL_law_754 : decode cL_law 754 = .ok (.istore 6, 2) := by decide +kernel
theorem dL_law_756 : decode cL_law 756 = .ok (.aload_n 2, 1) := by decide +kernel
theorem dL_law_757 : decode cL_law 757 = .ok (.invokevirtual 80, 3) := by decide +kernel
theorem dL_law_760 : decode cL_law 760 = .ok (.iload 5, 2) := by decide +kernel
theorem dL_law_762 : decode cL_law 762 = .ok (.if_icmp .eq 5, 3) := by decide +kernel
theorem dL_law_765 : decode cL_law 765 = .ok (.iconst 0, 1) := by decide +kernel
theorem dL_law_766 : decode cL_law 766 = .ok (.ireturn, 1) := by decide +kernel
theorem dL_law_767 : decode cL_law 767 = .ok (.iload 5, 2) := by decide +kernel
theorem dL_law_769 : decode cL_law 769 = .ok (.ifCond .ne 15, 3) := by decide +kernel
theorem dL_law_772 : decode cL_law 772 = .ok (.aload_n 3, 1) := by decide +kernel
theorem dL_law_773 : decode cL_law 773 = .ok (.iconst 0, 1) := by decide +kernel
theorem dL_law_774 : decode cL_law 774 = .ok (.laload, 1) := by decide +kernel
theorem dL_law_775 : decode cL_law 775 = .ok (.iload 6, 2) := by decide +kernel
theorem dL_law_777 : decode cL_law 777 = .ok (.i2l, 1) := by decide +kernel
theorem dL_law_778 : decode cL_law 778 = .ok (.lcmp, 1) := by decide +kernel
theorem dL_law_779 : decode cL_law 779 = .ok (.ifCond .eq 5, 3) := by decide +kernel
theorem dL_law_782 : decode cL_law 782 = .ok (.iconst 0, 1) := by decide +kernel
theorem dL_law_783 : decode cL_law 783 = .ok (.ireturn, 1) := by decide +kernel
theorem dL_law_784 : decode cL_law 784 = .ok (.goto 455, 3) := by decide +kernel
theorem dL_law_787 : decode cL_law 787 = .ok (.aload_n 1, 1) := by decide +kernel
theorem dL_law_788 : decode cL_law 788 = .ok (.aload_n 0, 1) := by decide +kernel
theorem dL_law_789 : decode cL_law 789 = .ok (.iload 4, 2) := by decide +kernel
theorem dL_law_791 : decode cL_law 791 = .ok (.iconst 1, 1) := by decide +kernel
theorem dL_law_792 : decode cL_law 792 = .ok (.iadd, 1) := by decide +kernel
theorem dL_law_793 : decode cL_law 793 = .ok (.iaload, 1) := by decide +kernel
theorem dL_law_794 : decode cL_law 794 = .ok (.aload_n 0, 1) := by decide +kernel
theorem dL_law_795 : decode cL_law 795 = .ok (.iload 4, 2) := by decide +kernel
theorem dL_law_797 : decode cL_law 797 = .ok (.iconst 2, 1) := by decide +kernel
theorem dL_law_798 : decode cL_law 798 = .ok (.iadd, 1) := by decide +kernel
theorem dL_law_799 : decode cL_law 799 = .ok (.iaload, 1) := by decide +kernel
theorem dL_law_800 : decode cL_law 800 = .ok (.aload_n 3, 1) := by decide +kernel
theorem dL_law_801 : decode cL_law 801 = .ok (.invokestatic 111, 3) := by decide +kernel
theorem dL_law_804 : decode cL_law 804 = .ok (.istore 5, 2) := by decide +kernel
theorem dL_law_806 : decode cL_law 806 = .ok (.aload_n 2, 1) := by decide +kernel
theorem dL_law_807 : decode cL_law 807 = .ok (.aload_n 0, 1) := by decide +kernel
theorem dL_law_808 : decode cL_law 808 = .ok (.iload 4, 2) := by decide +kernel
theorem dL_law_810 : decode cL_law 810 = .ok (.iconst 1, 1) := by decide +kernel
theorem dL_law_811 : decode cL_law 811 = .ok (.iadd, 1) := by decide +kernel
theorem dL_law_812 : decode cL_law 812 = .ok (.iaload, 1) := by decide +kernel
theorem dL_law_813 : decode cL_law 813 = .ok (.aload_n 0, 1) := by decide +kernel
theorem dL_law_814 : decode cL_law 814 = .ok (.iload 4, 2) := by decide +kernel
theorem dL_law_816 : decode cL_law 816 = .ok (.iconst 2, 1) := by decide +kernel
theorem dL_law_817 : decode cL_law 817 = .ok (.iadd, 1) := by decide +kernel
theorem dL_law_818 : decode cL_law 818 = .ok (.iaload, 1) := by decide +kernel
theorem dL_law_819 : decode cL_law 819 = .ok (.invokevirtual 113, 3) := by decide +kernel
theorem dL_law_822 : decode cL_law 822 = .ok (.istore 6, 2) := by decide +kernel
theorem dL_law_824 : decode cL_law 824 = .ok (.aload_n 2, 1) := by decide +kernel
theorem dL_law_825 : decode cL_law 825 = .ok (.invokevirtual 80, 3) := by decide +kernel
theorem dL_law_828 : decode cL_law 828 = .ok (.iload 5, 2) := by decide +kernel
theorem dL_law_830 : decode cL_law 830 = .ok (.if_icmp .eq 5, 3) := by decide +kernel
theorem dL_law_833 : decode cL_law 833 = .ok (.iconst 0, 1) := by decide +kernel
theorem dL_law_834 : decode cL_law 834 = .ok (.ireturn, 1) := by decide +kernel
theorem dL_law_835 : decode cL_law 835 = .ok (.iload 5, 2) := by decide +kernel
theorem dL_law_837 : decode cL_law 837 = .ok (.ifCond .ne 15, 3) := by decide +kernel
theorem dL_law_840 : decode cL_law 840 = .ok (.aload_n 3, 1) := by decide +kernel
theorem dL_law_841 : decode cL_law 841 = .ok (.iconst 0, 1) := by decide +kernel
theorem dL_law_842 : decode cL_law 842 = .ok (.laload, 1) := by decide +kernel
theorem dL_law_843 : decode cL_law 843 = .ok (.iload 6, 2) := by decide +kernel
theorem dL_law_845 : decode cL_law 845 = .ok (.i2l, 1) := by decide +kernel
theorem dL_law_846 : decode cL_law 846 = .ok (.lcmp, 1) := by decide +kernel
theorem dL_law_847 : decode cL_law 847 = .ok (.ifCond .eq 5, 3) := by decide +kernel
theorem dL_law_850 : decode cL_law 850 = .ok (.iconst 0, 1) := by decide +kernel
theorem dL_law_851 : decode cL_law 851 = .ok (.ireturn, 1) := by decide +kernel
theorem dL_law_852 : decode cL_law 852 = .ok (.goto 387, 3) := by decide +kernel
theorem dL_law_855 : decode cL_law 855 = .ok (.aload_n 1, 1) := by decide +kernel
theorem dL_law_856 : decode cL_law 856 = .ok (.aload_n 0, 1) := by decide +kernel
theorem dL_law_857 : decode cL_law 857 = .ok (.iload 4, 2) := by decide +kernel
theorem dL_law_859 : decode cL_law 859 = .ok (.iconst 1, 1) := by decide +kernel
theorem dL_law_860 : decode cL_law 860 = .ok (.iadd, 1) := by decide +kernel
theorem dL_law_861 : decode cL_law 861 = .ok (.iaload, 1) := by decide +kernel
theorem dL_law_862 : decode cL_law 862 = .ok (.aload_n 0, 1) := by decide +kernel
theorem dL_law_863 : decode cL_law 863 = .ok (.iload 4, 2) := by decide +kernel
theorem dL_law_865 : decode cL_law 865 = .ok (.iconst 2, 1) := by decide +kernel
theorem dL_law_866 : decode cL_law 866 = .ok (.iadd, 1) := by decide +kernel
theorem dL_law_867 : decode cL_law 867 = .ok (.iaload, 1) := by decide +kernel
theorem dL_law_868 : decode cL_law 868 = .ok (.aload_n 3, 1) := by decide +kernel
theorem dL_law_869 : decode cL_law 869 = .ok (.invokestatic 114, 3) := by decide +kernel
theorem dL_law_872 : decode cL_law 872 = .ok (.istore 5, 2) := by decide +kernel
theorem dL_law_874 : decode cL_law 874 = .ok (.aload_n 2, 1) := by decide +kernel
theorem dL_law_875 : decode cL_law 875 = .ok (.aload_n 0, 1) := by decide +kernel
theorem dL_law_876 : decode cL_law 876 = .ok (.iload 4, 2) := by decide +kernel
theorem dL_law_878 : decode cL_law 878 = .ok (.iconst 1, 1) := by decide +kernel
theorem dL_law_879 : decode cL_law 879 = .ok (.iadd, 1) := by decide +kernel
theorem dL_law_880 : decode cL_law 880 = .ok (.iaload, 1) := by decide +kernel
theorem dL_law_881 : decode cL_law 881 = .ok (.aload_n 0, 1) := by decide +kernel
theorem dL_law_882 : decode cL_law 882 = .ok (.iload 4, 2) := by decide +kernel
theorem dL_law_884 : decode cL_law 884 = .ok (.iconst 2, 1) := by decide +kernel
theorem dL_law_885 : decode cL_law 885 = .ok (.iadd, 1) := by decide +kernel
theorem dL_law_886 : decode cL_law 886 = .ok (.iaload, 1) := by decide +kernel
theorem dL_law_887 : decode cL_law 887 = .ok (.invokevirtual 116, 3) := by decide +kernel
theorem dL_law_890 : decode cL_law 890 = .ok (.istore 6, 2) := by decide +kernel
theorem dL_law_892 : decode cL_law 892 = .ok (.aload_n 2, 1) := by decide +kernel
theorem dL_law_893 : decode cL_law 893 = .ok (.invokevirtual 80, 3) := by decide +kernel
theorem dL_law_896 : decode cL_law 896 = .ok (.iload 5, 2) := by decide +kernel
theorem dL_law_898 : decode cL_law 898 = .ok (.if_icmp .eq 5, 3) := by decide +kernel
theorem dL_law_901 : decode cL_law 901 = .ok (.iconst 0, 1) := by decide +kernel
theorem dL_law_902 : decode cL_law 902 = .ok (.ireturn, 1) := by decide +kernel
theorem dL_law_903 : decode cL_law 903 = .ok (.iload 5, 2) := by decide +kernel
theorem dL_law_905 : decode cL_law 905 = .ok (.ifCond .ne 15, 3) := by decide +kernel
theorem dL_law_908 : decode cL_law 908 = .ok (.aload_n 3, 1) := by decide +kernel
theorem dL_law_909 : decode cL_law 909 = .ok (.iconst 0, 1) := by decide +kernel
theorem dL_law_910 : decode cL_law 910 = .ok (.laload, 1) := by decide +kernel
theorem dL_law_911 : decode cL_law 911 = .ok (.iload 6, 2) := by decide +kernel
theorem dL_law_913 : decode cL_law 913 = .ok (.i2l, 1) := by decide +kernel
theorem dL_law_914 : decode cL_law 914 = .ok (.lcmp, 1) := by decide +kernel
theorem dL_law_915 : decode cL_law 915 = .ok (.ifCond .eq 5, 3) := by decide +kernel
theorem dL_law_918 : decode cL_law 918 = .ok (.iconst 0, 1) := by decide +kernel
theorem dL_law_919 : decode cL_law 919 = .ok (.ireturn, 1) := by decide +kernel
theorem dL_law_920 : decode cL_law 920 = .ok (.goto 319, 3) := by decide +kernel
theorem dL_law_923 : decode cL_law 923 = .ok (.aload_n 1, 1) := by decide +kernel
theorem dL_law_924 : decode cL_law 924 = .ok (.aload_n 0, 1) := by decide +kernel
theorem dL_law_925 : decode cL_law 925 = .ok (.iload 4, 2) := by decide +kernel
theorem dL_law_927 : decode cL_law 927 = .ok (.iconst 1, 1) := by decide +kernel
theorem dL_law_928 : decode cL_law 928 = .ok (.iadd, 1) := by decide +kernel
theorem dL_law_929 : decode cL_law 929 = .ok (.iaload, 1) := by decide +kernel
theorem dL_law_930 : decode cL_law 930 = .ok (.aload_n 0, 1) := by decide +kernel
theorem dL_law_931 : decode cL_law 931 = .ok (.iload 4, 2) := by decide +kernel
theorem dL_law_933 : decode cL_law 933 = .ok (.iconst 2, 1) := by decide +kernel
theorem dL_law_934 : decode cL_law 934 = .ok (.iadd, 1) := by decide +kernel
theorem dL_law_935 : decode cL_law 935 = .ok (.iaload, 1) := by decide +kernel
theorem dL_law_936 : decode cL_law 936 = .ok (.aload_n 3, 1) := by decide +kernel
theorem dL_law_937 : decode cL_law 937 = .ok (.invokestatic 117, 3) := by decide +kernel
theorem dL_law_940 : decode cL_law 940 = .ok (.istore 5, 2) := by decide +kernel
theorem dL_law_942 : decode cL_law 942 = .ok (.aload_n 2, 1) := by decide +kernel
theorem dL_law_943 : decode cL_law 943 = .ok (.aload_n 0, 1) := by decide +kernel
theorem dL_law_944 : decode cL_law 944 = .ok (.iload 4, 2) := by decide +kernel
theorem dL_law_946 : decode cL_law 946 = .ok (.iconst 1, 1) := by decide +kernel
theorem dL_law_947 : decode cL_law 947 = .ok (.iadd, 1) := by decide +kernel
theorem dL_law_948 : decode cL_law 948 = .ok (.iaload, 1) := by decide +kernel
theorem dL_law_949 : decode cL_law 949 = .ok (.aload_n 0, 1) := by decide +kernel
theorem dL_law_950 : decode cL_law 950 = .ok (.iload 4, 2) := by decide +kernel
theorem dL_law_952 : decode cL_law 952 = .ok (.iconst 2, 1) := by decide +kernel
theorem dL_law_953 : decode cL_law 953 = .ok (.iadd, 1) := by decide +kernel
theorem dL_law_954 : decode cL_law 954 = .ok (.iaload, 1) := by decide +kernel
theorem dL_law_955 : decode cL_law 955 = .ok (.invokevirtual 119, 3) := by decide +kernel
theorem dL_law_958 : decode cL_law 958 = .ok (.istore 6, 2) := by decide +kernel
theorem dL_law_960 : decode cL_law 960 = .ok (.aload_n 2, 1) := by decide +kernel
theorem dL_law_961 : decode cL_law 961 = .ok (.invokevirtual 80, 3) := by decide +kernel
theorem dL_law_964 : decode cL_law 964 = .ok (.iload 5, 2) := by decide +kernel
theorem dL_law_966 : decode cL_law 966 = .ok (.if_icmp .eq 5, 3) := by decide +kernel
theorem dL_law_969 : decode cL_law 969 = .ok (.iconst 0, 1) := by decide +kernel
theorem dL_law_970 : decode cL_law 970 = .ok (.ireturn, 1) := by decide +kernel
theorem dL_law_971 : decode cL_law 971 = .ok (.iload 5, 2) := by decide +kernel
theorem dL_law_973 : decode cL_law 973 = .ok (.ifCond .ne 15, 3) := by decide +kernel
theorem dL_law_976 : decode cL_law 976 = .ok (.aload_n 3, 1) := by decide +kernel
theorem dL_law_977 : decode cL_law 977 = .ok (.iconst 0, 1) := by decide +kernel
theorem dL_law_978 : decode cL_law 978 = .ok (.laload, 1) := by decide +kernel
theorem dL_law_979 : decode cL_law 979 = .ok (.iload 6, 2) := by decide +kernel
theorem dL_law_981 : decode cL_law 981 = .ok (.i2l, 1) := by decide +kernel
theorem dL_law_982 : decode cL_law 982 = .ok (.lcmp, 1) := by decide +kernel
theorem dL_law_983 : decode cL_law 983 = .ok (.ifCond .eq 5, 3) := by decide +kernel
theorem dL_law_986 : decode cL_law 986 = .ok (.iconst 0, 1) := by decide +kernel
theorem dL_law_987 : decode cL_law 987 = .ok (.ireturn, 1) := by decide +kernel
theorem dL_law_988 : decode cL_law 988 = .ok (.goto 251, 3) := by decide +kernel
theorem dL_law_991 : decode cL_law 991 = .ok (.aload_n 1, 1) := by decide +kernel
theorem dL_law_992 : decode cL_law 992 = .ok (.aload_n 0, 1) := by decide +kernel
theorem dL_law_993 : decode cL_law 993 = .ok (.iload 4, 2) := by decide +kernel
theorem dL_law_995 : decode cL_law 995 = .ok (.iconst 1, 1) := by decide +kernel
theorem dL_law_996 : decode cL_law 996 = .ok (.iadd, 1) := by decide +kernel
theorem dL_law_997 : decode cL_law 997 = .ok (.iaload, 1) := by decide +kernel
theorem dL_law_998 : decode cL_law 998 = .ok (.aload_n 3, 1) := by decide +kernel
theorem dL_law_999 : decode cL_law 999 = .ok (.invokestatic 120, 3) := by decide +kernel
theorem dL_law_1002 : decode cL_law 1002 = .ok (.istore 5, 2) := by decide +kernel
theorem dL_law_1004 : decode cL_law 1004 = .ok (.aload_n 2, 1) := by decide +kernel
theorem dL_law_1005 : decode cL_law 1005 = .ok (.aload_n 0, 1) := by decide +kernel
theorem dL_law_1006 : decode cL_law 1006 = .ok (.iload 4, 2) := by decide +kernel
theorem dL_law_1008 : decode cL_law 1008 = .ok (.iconst 1, 1) := by decide +kernel
theorem dL_law_1009 : decode cL_law 1009 = .ok (.iadd, 1) := by decide +kernel
theorem dL_law_1010 : decode cL_law 1010 = .ok (.iaload, 1) := by decide +kernel
theorem dL_law_1011 : decode cL_law 1011 = .ok (.invokevirtual 123, 3) := by decide +kernel
theorem dL_law_1014 : decode cL_law 1014 = .ok (.istore 6, 2) := by decide +kernel
theorem dL_law_1016 : decode cL_law 1016 = .ok (.aload_n 2, 1) := by decide +kernel
theorem dL_law_1017 : decode cL_law 1017 = .ok (.invokevirtual 80, 3) := by decide +kernel
theorem dL_law_1020 : decode cL_law 1020 = .ok (.iload 5, 2) := by decide +kernel
theorem dL_law_1022 : decode cL_law 1022 = .ok (.if_icmp .eq 5, 3) := by decide +kernel
theorem dL_law_1025 : decode cL_law 1025 = .ok (.iconst 0, 1) := by decide +kernel
theorem dL_law_1026 : decode cL_law 1026 = .ok (.ireturn, 1) := by decide +kernel
theorem dL_law_1027 : decode cL_law 1027 = .ok (.iload 5, 2) := by decide +kernel
theorem dL_law_1029 : decode cL_law 1029 = .ok (.ifCond .ne 15, 3) := by decide +kernel
theorem dL_law_1032 : decode cL_law 1032 = .ok (.aload_n 3, 1) := by decide +kernel
theorem dL_law_1033 : decode cL_law 1033 = .ok (.iconst 0, 1) := by decide +kernel
theorem dL_law_1034 : decode cL_law 1034 = .ok (.laload, 1) := by decide +kernel
theorem dL_law_1035 : decode cL_law 1035 = .ok (.iload 6, 2) := by decide +kernel
theorem dL_law_1037 : decode cL_law 1037 = .ok (.i2l, 1) := by decide +kernel
theorem dL_law_1038 : decode cL_law 1038 = .ok (.lcmp, 1) := by decide +kernel
theorem dL_law_1039 : decode cL_law 1039 = .ok (.ifCond .eq 5, 3) := by decide +kernel
