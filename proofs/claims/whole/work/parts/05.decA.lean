theorem dX0_init_0 : decode cX0_init 0 = .ok (.aload_n 0, 1) := by decide +kernel
theorem dX0_init_1 : decode cX0_init 1 = .ok (.invokespecial 3, 3) := by decide +kernel
theorem dX0_init_4 : decode cX0_init 4 = .ok (.aload_n 0, 1) := by decide +kernel
theorem dX0_init_5 : decode cX0_init 5 = .ok (.new 9, 3) := by decide +kernel
theorem dX0_init_8 : decode cX0_init 8 = .ok (.dup, 1) := by decide +kernel
theorem dX0_init_9 : decode cX0_init 9 = .ok (.invokespecial 11, 3) := by decide +kernel
theorem dX0_init_12 : decode cX0_init 12 = .ok (.putfield 12, 3) := by decide +kernel
theorem dX0_init_15 : decode cX0_init 15 = .ok (.aload_n 0, 1) := by decide +kernel
theorem dX0_init_16 : decode cX0_init 16 = .ok (.new 9, 3) := by decide +kernel
theorem dX0_init_19 : decode cX0_init 19 = .ok (.dup, 1) := by decide +kernel
theorem dX0_init_20 : decode cX0_init 20 = .ok (.invokespecial 11, 3) := by decide +kernel
theorem dX0_init_23 : decode cX0_init 23 = .ok (.putfield 18, 3) := by decide +kernel
theorem dX0_init_26 : decode cX0_init 26 = .ok (.return_, 1) := by decide +kernel
theorem dX0_measure_0 : decode cX0_measure 0 = .ok (.iconst 0, 1) := by decide +kernel
theorem dX0_measure_1 : decode cX0_measure 1 = .ok (.istore_n 2, 1) := by decide +kernel
theorem dX0_measure_2 : decode cX0_measure 2 = .ok (.iload_n 2, 1) := by decide +kernel
theorem dX0_measure_3 : decode cX0_measure 3 = .ok (.aload_n 1, 1) := by decide +kernel
theorem dX0_measure_4 : decode cX0_measure 4 = .ok (.getfield 21, 3) := by decide +kernel
theorem dX0_measure_7 : decode cX0_measure 7 = .ok (.if_icmp .ge 106, 3) := by decide +kernel
theorem dX0_measure_10 : decode cX0_measure 10 = .ok (.iconst 0, 1) := by decide +kernel
theorem dX0_measure_11 : decode cX0_measure 11 = .ok (.istore_n 3, 1) := by decide +kernel
theorem dX0_measure_12 : decode cX0_measure 12 = .ok (.iload_n 3, 1) := by decide +kernel
theorem dX0_measure_13 : decode cX0_measure 13 = .ok (.aload_n 1, 1) := by decide +kernel
theorem dX0_measure_14 : decode cX0_measure 14 = .ok (.getfield 21, 3) := by decide +kernel
theorem dX0_measure_17 : decode cX0_measure 17 = .ok (.if_icmp .ge 70, 3) := by decide +kernel
theorem dX0_measure_20 : decode cX0_measure 20 = .ok (.aload_n 1, 1) := by decide +kernel
theorem dX0_measure_21 : decode cX0_measure 21 = .ok (.getfield 27, 3) := by decide +kernel
theorem dX0_measure_24 : decode cX0_measure 24 = .ok (.iload_n 2, 1) := by decide +kernel
theorem dX0_measure_25 : decode cX0_measure 25 = .ok (.iload_n 3, 1) := by decide +kernel
theorem dX0_measure_26 : decode cX0_measure 26 = .ok (.invokevirtual 30, 3) := by decide +kernel
theorem dX0_measure_29 : decode cX0_measure 29 = .ok (.istore 4, 2) := by decide +kernel
theorem dX0_measure_31 : decode cX0_measure 31 = .ok (.aload_n 1, 1) := by decide +kernel
theorem dX0_measure_32 : decode cX0_measure 32 = .ok (.iload_n 2, 1) := by decide +kernel
theorem dX0_measure_33 : decode cX0_measure 33 = .ok (.iload_n 3, 1) := by decide +kernel
theorem dX0_measure_34 : decode cX0_measure 34 = .ok (.invokevirtual 34, 3) := by decide +kernel
theorem dX0_measure_37 : decode cX0_measure 37 = .ok (.istore 5, 2) := by decide +kernel
theorem dX0_measure_39 : decode cX0_measure 39 = .ok (.aload_n 0, 1) := by decide +kernel
theorem dX0_measure_40 : decode cX0_measure 40 = .ok (.getfield 12, 3) := by decide +kernel
theorem dX0_measure_43 : decode cX0_measure 43 = .ok (.iload_n 2, 1) := by decide +kernel
theorem dX0_measure_44 : decode cX0_measure 44 = .ok (.iload_n 3, 1) := by decide +kernel
theorem dX0_measure_45 : decode cX0_measure 45 = .ok (.iload 5, 2) := by decide +kernel
theorem dX0_measure_47 : decode cX0_measure 47 = .ok (.ifCond .eq 8, 3) := by decide +kernel
theorem dX0_measure_50 : decode cX0_measure 50 = .ok (.iload 4, 2) := by decide +kernel
theorem dX0_measure_52 : decode cX0_measure 52 = .ok (.goto 5, 3) := by decide +kernel
theorem dX0_measure_55 : decode cX0_measure 55 = .ok (.ldc 38, 2) := by decide +kernel
theorem dX0_measure_57 : decode cX0_measure 57 = .ok (.invokevirtual 39, 3) := by decide +kernel
theorem dX0_measure_60 : decode cX0_measure 60 = .ok (.aload_n 0, 1) := by decide +kernel
theorem dX0_measure_61 : decode cX0_measure 61 = .ok (.getfield 18, 3) := by decide +kernel
theorem dX0_measure_64 : decode cX0_measure 64 = .ok (.iload_n 2, 1) := by decide +kernel
theorem dX0_measure_65 : decode cX0_measure 65 = .ok (.iload_n 3, 1) := by decide +kernel
theorem dX0_measure_66 : decode cX0_measure 66 = .ok (.iload 5, 2) := by decide +kernel
theorem dX0_measure_68 : decode cX0_measure 68 = .ok (.ifCond .eq 8, 3) := by decide +kernel
theorem dX0_measure_71 : decode cX0_measure 71 = .ok (.ldc 38, 2) := by decide +kernel
theorem dX0_measure_73 : decode cX0_measure 73 = .ok (.goto 5, 3) := by decide +kernel
theorem dX0_measure_76 : decode cX0_measure 76 = .ok (.iload 4, 2) := by decide +kernel
theorem dX0_measure_78 : decode cX0_measure 78 = .ok (.invokevirtual 39, 3) := by decide +kernel
theorem dX0_measure_81 : decode cX0_measure 81 = .ok (.iinc 3 1, 3) := by decide +kernel
theorem dX0_measure_84 : decode cX0_measure 84 = .ok (.goto (-72), 3) := by decide +kernel
theorem dX0_measure_87 : decode cX0_measure 87 = .ok (.aload_n 0, 1) := by decide +kernel
theorem dX0_measure_88 : decode cX0_measure 88 = .ok (.getfield 12, 3) := by decide +kernel
theorem dX0_measure_91 : decode cX0_measure 91 = .ok (.iload_n 2, 1) := by decide +kernel
theorem dX0_measure_92 : decode cX0_measure 92 = .ok (.iload_n 2, 1) := by decide +kernel
theorem dX0_measure_93 : decode cX0_measure 93 = .ok (.iconst 0, 1) := by decide +kernel
theorem dX0_measure_94 : decode cX0_measure 94 = .ok (.invokevirtual 39, 3) := by decide +kernel
theorem dX0_measure_97 : decode cX0_measure 97 = .ok (.aload_n 0, 1) := by decide +kernel
theorem dX0_measure_98 : decode cX0_measure 98 = .ok (.getfield 18, 3) := by decide +kernel
theorem dX0_measure_101 : decode cX0_measure 101 = .ok (.iload_n 2, 1) := by decide +kernel
theorem dX0_measure_102 : decode cX0_measure 102 = .ok (.iload_n 2, 1) := by decide +kernel
theorem dX0_measure_103 : decode cX0_measure 103 = .ok (.iconst 0, 1) := by decide +kernel
theorem dX0_measure_104 : decode cX0_measure 104 = .ok (.invokevirtual 39, 3) := by decide +kernel
theorem dX0_measure_107 : decode cX0_measure 107 = .ok (.iinc 2 1, 3) := by decide +kernel
theorem dX0_measure_110 : decode cX0_measure 110 = .ok (.goto (-108), 3) := by decide +kernel
theorem dX0_measure_113 : decode cX0_measure 113 = .ok (.aload_n 0, 1) := by decide +kernel
theorem dX0_measure_114 : decode cX0_measure 114 = .ok (.getfield 12, 3) := by decide +kernel
theorem dX0_measure_117 : decode cX0_measure 117 = .ok (.aload_n 1, 1) := by decide +kernel
theorem dX0_measure_118 : decode cX0_measure 118 = .ok (.getfield 21, 3) := by decide +kernel
theorem dX0_measure_121 : decode cX0_measure 121 = .ok (.invokevirtual 43, 3) := by decide +kernel
theorem dX0_measure_124 : decode cX0_measure 124 = .ok (.aload_n 0, 1) := by decide +kernel
theorem dX0_measure_125 : decode cX0_measure 125 = .ok (.getfield 18, 3) := by decide +kernel
theorem dX0_measure_128 : decode cX0_measure 128 = .ok (.aload_n 1, 1) := by decide +kernel
theorem dX0_measure_129 : decode cX0_measure 129 = .ok (.getfield 21, 3) := by decide +kernel
theorem dX0_measure_132 : decode cX0_measure 132 = .ok (.invokevirtual 43, 3) := by decide +kernel
theorem dX0_measure_135 : decode cX0_measure 135 = .ok (.return_, 1) := by decide +kernel
theorem dX0_meeting_0 : decode cX0_meeting 0 = .ok (.iconst (-1), 1) := by decide +kernel
theorem dX0_meeting_1 : decode cX0_meeting 1 = .ok (.istore 4, 2) := by decide +kernel
theorem dX0_meeting_3 : decode cX0_meeting 3 = .ok (.ldc 38, 2) := by decide +kernel
theorem dX0_meeting_5 : decode cX0_meeting 5 = .ok (.istore 5, 2) := by decide +kernel
theorem dX0_meeting_7 : decode cX0_meeting 7 = .ok (.iconst 0, 1) := by decide +kernel
theorem dX0_meeting_8 : decode cX0_meeting 8 = .ok (.istore 6, 2) := by decide +kernel
theorem dX0_meeting_10 : decode cX0_meeting 10 = .ok (.iload 6, 2) := by decide +kernel
theorem dX0_meeting_12 : decode cX0_meeting 12 = .ok (.iload_n 3, 1) := by decide +kernel
theorem dX0_meeting_13 : decode cX0_meeting 13 = .ok (.if_icmp .ge 47, 3) := by decide +kernel
theorem dX0_meeting_16 : decode cX0_meeting 16 = .ok (.aload_n 0, 1) := by decide +kernel
theorem dX0_meeting_17 : decode cX0_meeting 17 = .ok (.getfield 12, 3) := by decide +kernel
theorem dX0_meeting_20 : decode cX0_meeting 20 = .ok (.iload_n 1, 1) := by decide +kernel
theorem dX0_meeting_21 : decode cX0_meeting 21 = .ok (.iload 6, 2) := by decide +kernel
theorem dX0_meeting_23 : decode cX0_meeting 23 = .ok (.invokevirtual 30, 3) := by decide +kernel
theorem dX0_meeting_26 : decode cX0_meeting 26 = .ok (.aload_n 0, 1) := by decide +kernel
theorem dX0_meeting_27 : decode cX0_meeting 27 = .ok (.getfield 18, 3) := by decide +kernel
theorem dX0_meeting_30 : decode cX0_meeting 30 = .ok (.iload 6, 2) := by decide +kernel
theorem dX0_meeting_32 : decode cX0_meeting 32 = .ok (.iload_n 2, 1) := by decide +kernel
theorem dX0_meeting_33 : decode cX0_meeting 33 = .ok (.invokevirtual 30, 3) := by decide +kernel
theorem dX0_meeting_36 : decode cX0_meeting 36 = .ok (.iadd, 1) := by decide +kernel
theorem dX0_meeting_37 : decode cX0_meeting 37 = .ok (.istore 7, 2) := by decide +kernel
theorem dX0_meeting_39 : decode cX0_meeting 39 = .ok (.iload 7, 2) := by decide +kernel
theorem dX0_meeting_41 : decode cX0_meeting 41 = .ok (.iload 5, 2) := by decide +kernel
theorem dX0_meeting_43 : decode cX0_meeting 43 = .ok (.if_icmp .ge 11, 3) := by decide +kernel
theorem dX0_meeting_46 : decode cX0_meeting 46 = .ok (.iload 6, 2) := by decide +kernel
theorem dX0_meeting_48 : decode cX0_meeting 48 = .ok (.istore 4, 2) := by decide +kernel
theorem dX0_meeting_50 : decode cX0_meeting 50 = .ok (.iload 7, 2) := by decide +kernel
theorem dX0_meeting_52 : decode cX0_meeting 52 = .ok (.istore 5, 2) := by decide +kernel
theorem dX0_meeting_54 : decode cX0_meeting 54 = .ok (.iinc 6 1, 3) := by decide +kernel
theorem dX0_meeting_57 : decode cX0_meeting 57 = .ok (.goto (-47), 3) := by decide +kernel
theorem dX0_meeting_60 : decode cX0_meeting 60 = .ok (.iload 4, 2) := by decide +kernel
theorem dX0_meeting_62 : decode cX0_meeting 62 = .ok (.ireturn, 1) := by decide +kernel
theorem dX1_init_0 : decode cX1_init 0 = .ok (.aload_n 0, 1) := by decide +kernel
theorem dX1_init_1 : decode cX1_init 1 = .ok (.invokespecial 3, 3) := by decide +kernel
theorem dX1_init_4 : decode cX1_init 4 = .ok (.aload_n 0, 1) := by decide +kernel
theorem dX1_init_5 : decode cX1_init 5 = .ok (.sipush 144, 3) := by decide +kernel
theorem dX1_init_8 : decode cX1_init 8 = .ok (.newarray .int, 2) := by decide +kernel
theorem dX1_init_10 : decode cX1_init 10 = .ok (.putfield 9, 3) := by decide +kernel
theorem dX1_init_13 : decode cX1_init 13 = .ok (.return_, 1) := by decide +kernel
theorem dX1_get_0 : decode cX1_get 0 = .ok (.aload_n 0, 1) := by decide +kernel
theorem dX1_get_1 : decode cX1_get 1 = .ok (.getfield 9, 3) := by decide +kernel
theorem dX1_get_4 : decode cX1_get 4 = .ok (.iload_n 1, 1) := by decide +kernel
theorem dX1_get_5 : decode cX1_get 5 = .ok (.bipush 12, 2) := by decide +kernel
theorem dX1_get_7 : decode cX1_get 7 = .ok (.imul, 1) := by decide +kernel
theorem dX1_get_8 : decode cX1_get 8 = .ok (.iload_n 2, 1) := by decide +kernel
theorem dX1_get_9 : decode cX1_get 9 = .ok (.iadd, 1) := by decide +kernel
theorem dX1_get_10 : decode cX1_get 10 = .ok (.iaload, 1) := by decide +kernel
theorem dX1_get_11 : decode cX1_get 11 = .ok (.ireturn, 1) := by decide +kernel
theorem dX1_set_0 : decode cX1_set 0 = .ok (.aload_n 0, 1) := by decide +kernel
theorem dX1_set_1 : decode cX1_set 1 = .ok (.getfield 9, 3) := by decide +kernel
theorem dX1_set_4 : decode cX1_set 4 = .ok (.iload_n 1, 1) := by decide +kernel
theorem dX1_set_5 : decode cX1_set 5 = .ok (.bipush 12, 2) := by decide +kernel
theorem dX1_set_7 : decode cX1_set 7 = .ok (.imul, 1) := by decide +kernel
theorem dX1_set_8 : decode cX1_set 8 = .ok (.iload_n 2, 1) := by decide +kernel
theorem dX1_set_9 : decode cX1_set 9 = .ok (.iadd, 1) := by decide +kernel
theorem dX1_set_10 : decode cX1_set 10 = .ok (.iload_n 3, 1) := by decide +kernel
theorem dX1_set_11 : decode cX1_set 11 = .ok (.iastore, 1) := by decide +kernel
theorem dX1_set_12 : decode cX1_set 12 = .ok (.return_, 1) := by decide +kernel
theorem dX1_shorten_0 : decode cX1_shorten 0 = .ok (.iconst 0, 1) := by decide +kernel
theorem dX1_shorten_1 : decode cX1_shorten 1 = .ok (.istore_n 2, 1) := by decide +kernel
theorem dX1_shorten_2 : decode cX1_shorten 2 = .ok (.iload_n 2, 1) := by decide +kernel
theorem dX1_shorten_3 : decode cX1_shorten 3 = .ok (.iload_n 1, 1) := by decide +kernel
theorem dX1_shorten_4 : decode cX1_shorten 4 = .ok (.if_icmp .ge 46, 3) := by decide +kernel
theorem dX1_shorten_7 : decode cX1_shorten 7 = .ok (.iconst 0, 1) := by decide +kernel
theorem dX1_shorten_8 : decode cX1_shorten 8 = .ok (.istore_n 3, 1) := by decide +kernel
theorem dX1_shorten_9 : decode cX1_shorten 9 = .ok (.iload_n 3, 1) := by decide +kernel
theorem dX1_shorten_10 : decode cX1_shorten 10 = .ok (.iload_n 1, 1) := by decide +kernel
theorem dX1_shorten_11 : decode cX1_shorten 11 = .ok (.if_icmp .ge 33, 3) := by decide +kernel
theorem dX1_shorten_14 : decode cX1_shorten 14 = .ok (.aload_n 0, 1) := by decide +kernel
theorem dX1_shorten_15 : decode cX1_shorten 15 = .ok (.iload_n 3, 1) := by decide +kernel
theorem dX1_shorten_16 : decode cX1_shorten 16 = .ok (.iload_n 2, 1) := by decide +kernel
theorem dX1_shorten_17 : decode cX1_shorten 17 = .ok (.invokevirtual 15, 3) := by decide +kernel
theorem dX1_shorten_20 : decode cX1_shorten 20 = .ok (.istore 4, 2) := by decide +kernel
theorem dX1_shorten_22 : decode cX1_shorten 22 = .ok (.iload 4, 2) := by decide +kernel
theorem dX1_shorten_24 : decode cX1_shorten 24 = .ok (.ldc 19, 2) := by decide +kernel
theorem dX1_shorten_26 : decode cX1_shorten 26 = .ok (.if_icmp .ge 12, 3) := by decide +kernel
theorem dX1_shorten_29 : decode cX1_shorten 29 = .ok (.aload_n 0, 1) := by decide +kernel
theorem dX1_shorten_30 : decode cX1_shorten 30 = .ok (.iload_n 3, 1) := by decide +kernel
theorem dX1_shorten_31 : decode cX1_shorten 31 = .ok (.iload_n 2, 1) := by decide +kernel
theorem dX1_shorten_32 : decode cX1_shorten 32 = .ok (.iload 4, 2) := by decide +kernel
theorem dX1_shorten_34 : decode cX1_shorten 34 = .ok (.iload_n 1, 1) := by decide +kernel
theorem dX1_shorten_35 : decode cX1_shorten 35 = .ok (.invokevirtual 20, 3) := by decide +kernel
theorem dX1_shorten_38 : decode cX1_shorten 38 = .ok (.iinc 3 1, 3) := by decide +kernel
theorem dX1_shorten_41 : decode cX1_shorten 41 = .ok (.goto (-32), 3) := by decide +kernel
theorem dX1_shorten_44 : decode cX1_shorten 44 = .ok (.iinc 2 1, 3) := by decide +kernel
theorem dX1_shorten_47 : decode cX1_shorten 47 = .ok (.goto (-45), 3) := by decide +kernel
theorem dX1_shorten_50 : decode cX1_shorten 50 = .ok (.return_, 1) := by decide +kernel
theorem dX1_shortenRow_0 : decode cX1_shortenRow 0 = .ok (.iload_n 1, 1) := by decide +kernel
theorem dX1_shortenRow_1 : decode cX1_shortenRow 1 = .ok (.bipush 12, 2) := by decide +kernel
theorem dX1_shortenRow_3 : decode cX1_shortenRow 3 = .ok (.imul, 1) := by decide +kernel
theorem dX1_shortenRow_4 : decode cX1_shortenRow 4 = .ok (.istore 5, 2) := by decide +kernel
theorem dX1_shortenRow_6 : decode cX1_shortenRow 6 = .ok (.iload_n 2, 1) := by decide +kernel
theorem dX1_shortenRow_7 : decode cX1_shortenRow 7 = .ok (.bipush 12, 2) := by decide +kernel
theorem dX1_shortenRow_9 : decode cX1_shortenRow 9 = .ok (.imul, 1) := by decide +kernel
theorem dX1_shortenRow_10 : decode cX1_shortenRow 10 = .ok (.istore 6, 2) := by decide +kernel
theorem dX1_shortenRow_12 : decode cX1_shortenRow 12 = .ok (.iconst 0, 1) := by decide +kernel
theorem dX1_shortenRow_13 : decode cX1_shortenRow 13 = .ok (.istore 7, 2) := by decide +kernel
theorem dX1_shortenRow_15 : decode cX1_shortenRow 15 = .ok (.iload 7, 2) := by decide +kernel
theorem dX1_shortenRow_17 : decode cX1_shortenRow 17 = .ok (.iload 4, 2) := by decide +kernel
theorem dX1_shortenRow_19 : decode cX1_shortenRow 19 = .ok (.if_icmp .ge 50, 3) := by decide +kernel
theorem dX1_shortenRow_22 : decode cX1_shortenRow 22 = .ok (.iload_n 3, 1) := by decide +kernel
theorem dX1_shortenRow_23 : decode cX1_shortenRow 23 = .ok (.aload_n 0, 1) := by decide +kernel
theorem dX1_shortenRow_24 : decode cX1_shortenRow 24 = .ok (.getfield 9, 3) := by decide +kernel
theorem dX1_shortenRow_27 : decode cX1_shortenRow 27 = .ok (.iload 6, 2) := by decide +kernel
theorem dX1_shortenRow_29 : decode cX1_shortenRow 29 = .ok (.iload 7, 2) := by decide +kernel
theorem dX1_shortenRow_31 : decode cX1_shortenRow 31 = .ok (.iadd, 1) := by decide +kernel
theorem dX1_shortenRow_32 : decode cX1_shortenRow 32 = .ok (.iaload, 1) := by decide +kernel
theorem dX1_shortenRow_33 : decode cX1_shortenRow 33 = .ok (.iadd, 1) := by decide +kernel
theorem dX1_shortenRow_34 : decode cX1_shortenRow 34 = .ok (.istore 8, 2) := by decide +kernel
theorem dX1_shortenRow_36 : decode cX1_shortenRow 36 = .ok (.iload 8, 2) := by decide +kernel
theorem dX1_shortenRow_38 : decode cX1_shortenRow 38 = .ok (.aload_n 0, 1) := by decide +kernel
theorem dX1_shortenRow_39 : decode cX1_shortenRow 39 = .ok (.getfield 9, 3) := by decide +kernel
theorem dX1_shortenRow_42 : decode cX1_shortenRow 42 = .ok (.iload 5, 2) := by decide +kernel
theorem dX1_shortenRow_44 : decode cX1_shortenRow 44 = .ok (.iload 7, 2) := by decide +kernel
theorem dX1_shortenRow_46 : decode cX1_shortenRow 46 = .ok (.iadd, 1) := by decide +kernel
theorem dX1_shortenRow_47 : decode cX1_shortenRow 47 = .ok (.iaload, 1) := by decide +kernel
theorem dX1_shortenRow_48 : decode cX1_shortenRow 48 = .ok (.if_icmp .ge 15, 3) := by decide +kernel
theorem dX1_shortenRow_51 : decode cX1_shortenRow 51 = .ok (.aload_n 0, 1) := by decide +kernel
theorem dX1_shortenRow_52 : decode cX1_shortenRow 52 = .ok (.getfield 9, 3) := by decide +kernel
theorem dX1_shortenRow_55 : decode cX1_shortenRow 55 = .ok (.iload 5, 2) := by decide +kernel
theorem dX1_shortenRow_57 : decode cX1_shortenRow 57 = .ok (.iload 7, 2) := by decide +kernel
theorem dX1_shortenRow_59 : decode cX1_shortenRow 59 = .ok (.iadd, 1) := by decide +kernel
theorem dX1_shortenRow_60 : decode cX1_shortenRow 60 = .ok (.iload 8, 2) := by decide +kernel
theorem dX1_shortenRow_62 : decode cX1_shortenRow 62 = .ok (.iastore, 1) := by decide +kernel
theorem dX1_shortenRow_63 : decode cX1_shortenRow 63 = .ok (.iinc 7 1, 3) := by decide +kernel
theorem dX1_shortenRow_66 : decode cX1_shortenRow 66 = .ok (.goto (-51), 3) := by decide +kernel
theorem dX1_shortenRow_69 : decode cX1_shortenRow 69 = .ok (.return_, 1) := by decide +kernel
theorem dX2_init_0 : decode cX2_init 0 = .ok (.aload_n 0, 1) := by decide +kernel
theorem dX2_init_1 : decode cX2_init 1 = .ok (.invokespecial 3, 3) := by decide +kernel
theorem dX2_init_4 : decode cX2_init 4 = .ok (.aload_n 0, 1) := by decide +kernel
theorem dX2_init_5 : decode cX2_init 5 = .ok (.new 9, 3) := by decide +kernel
theorem dX2_init_8 : decode cX2_init 8 = .ok (.dup, 1) := by decide +kernel
theorem dX2_init_9 : decode cX2_init 9 = .ok (.invokespecial 11, 3) := by decide +kernel
theorem dX2_init_12 : decode cX2_init 12 = .ok (.putfield 12, 3) := by decide +kernel
theorem dX2_init_15 : decode cX2_init 15 = .ok (.aload_n 0, 1) := by decide +kernel
theorem dX2_init_16 : decode cX2_init 16 = .ok (.new 9, 3) := by decide +kernel
theorem dX2_init_19 : decode cX2_init 19 = .ok (.dup, 1) := by decide +kernel
theorem dX2_init_20 : decode cX2_init 20 = .ok (.invokespecial 11, 3) := by decide +kernel
theorem dX2_init_23 : decode cX2_init 23 = .ok (.putfield 18, 3) := by decide +kernel
theorem dX2_init_26 : decode cX2_init 26 = .ok (.aload_n 0, 1) := by decide +kernel
theorem dX2_init_27 : decode cX2_init 27 = .ok (.bipush 12, 2) := by decide +kernel
theorem dX2_init_29 : decode cX2_init 29 = .ok (.newarray .int, 2) := by decide +kernel
theorem dX2_init_31 : decode cX2_init 31 = .ok (.putfield 21, 3) := by decide +kernel
theorem dX2_init_34 : decode cX2_init 34 = .ok (.aload_n 0, 1) := by decide +kernel
theorem dX2_init_35 : decode cX2_init 35 = .ok (.bipush 12, 2) := by decide +kernel
theorem dX2_init_37 : decode cX2_init 37 = .ok (.newarray .int, 2) := by decide +kernel
theorem dX2_init_39 : decode cX2_init 39 = .ok (.putfield 25, 3) := by decide +kernel
theorem dX2_init_42 : decode cX2_init 42 = .ok (.aload_n 0, 1) := by decide +kernel
theorem dX2_init_43 : decode cX2_init 43 = .ok (.bipush 12, 2) := by decide +kernel
theorem dX2_init_45 : decode cX2_init 45 = .ok (.newarray .int, 2) := by decide +kernel
theorem dX2_init_47 : decode cX2_init 47 = .ok (.putfield 28, 3) := by decide +kernel
theorem dX2_init_50 : decode cX2_init 50 = .ok (.aload_n 0, 1) := by decide +kernel
theorem dX2_init_51 : decode cX2_init 51 = .ok (.bipush 12, 2) := by decide +kernel
theorem dX2_init_53 : decode cX2_init 53 = .ok (.newarray .int, 2) := by decide +kernel
theorem dX2_init_55 : decode cX2_init 55 = .ok (.putfield 31, 3) := by decide +kernel
theorem dX2_init_58 : decode cX2_init 58 = .ok (.aload_n 0, 1) := by decide +kernel
theorem dX2_init_59 : decode cX2_init 59 = .ok (.new 9, 3) := by decide +kernel
theorem dX2_init_62 : decode cX2_init 62 = .ok (.dup, 1) := by decide +kernel
theorem dX2_init_63 : decode cX2_init 63 = .ok (.invokespecial 11, 3) := by decide +kernel
theorem dX2_init_66 : decode cX2_init 66 = .ok (.putfield 34, 3) := by decide +kernel
theorem dX2_init_69 : decode cX2_init 69 = .ok (.aload_n 0, 1) := by decide +kernel
theorem dX2_init_70 : decode cX2_init 70 = .ok (.new 9, 3) := by decide +kernel
theorem dX2_init_73 : decode cX2_init 73 = .ok (.dup, 1) := by decide +kernel
theorem dX2_init_74 : decode cX2_init 74 = .ok (.invokespecial 11, 3) := by decide +kernel
theorem dX2_init_77 : decode cX2_init 77 = .ok (.putfield 37, 3) := by decide +kernel
theorem dX2_init_80 : decode cX2_init 80 = .ok (.aload_n 0, 1) := by decide +kernel
theorem dX2_init_81 : decode cX2_init 81 = .ok (.new 9, 3) := by decide +kernel
theorem dX2_init_84 : decode cX2_init 84 = .ok (.dup, 1) := by decide +kernel
theorem dX2_init_85 : decode cX2_init 85 = .ok (.invokespecial 11, 3) := by decide +kernel
theorem dX2_init_88 : decode cX2_init 88 = .ok (.putfield 40, 3) := by decide +kernel
theorem dX2_init_91 : decode cX2_init 91 = .ok (.return_, 1) := by decide +kernel
theorem dX2_findOrder_0 : decode cX2_findOrder 0 = .ok (.aload_n 0, 1) := by decide +kernel
theorem dX2_findOrder_1 : decode cX2_findOrder 1 = .ok (.aload_n 1, 1) := by decide +kernel
theorem dX2_findOrder_2 : decode cX2_findOrder 2 = .ok (.invokevirtual 43, 3) := by decide +kernel
theorem dX2_findOrder_5 : decode cX2_findOrder 5 = .ok (.iconst 0, 1) := by decide +kernel
theorem dX2_findOrder_6 : decode cX2_findOrder 6 = .ok (.istore_n 2, 1) := by decide +kernel
theorem dX2_findOrder_7 : decode cX2_findOrder 7 = .ok (.iload_n 2, 1) := by decide +kernel
theorem dX2_findOrder_8 : decode cX2_findOrder 8 = .ok (.aload_n 0, 1) := by decide +kernel
theorem dX2_findOrder_9 : decode cX2_findOrder 9 = .ok (.getfield 47, 3) := by decide +kernel
theorem dX2_findOrder_12 : decode cX2_findOrder 12 = .ok (.if_icmp .ge 27, 3) := by decide +kernel
theorem dX2_findOrder_15 : decode cX2_findOrder 15 = .ok (.aload_n 0, 1) := by decide +kernel
theorem dX2_findOrder_16 : decode cX2_findOrder 16 = .ok (.aload_n 0, 1) := by decide +kernel
theorem dX2_findOrder_17 : decode cX2_findOrder 17 = .ok (.getfield 34, 3) := by decide +kernel
theorem dX2_findOrder_20 : decode cX2_findOrder 20 = .ok (.iconst (-1), 1) := by decide +kernel
theorem dX2_findOrder_21 : decode cX2_findOrder 21 = .ok (.invokevirtual 51, 3) := by decide +kernel
theorem dX2_findOrder_24 : decode cX2_findOrder 24 = .ok (.aload_n 0, 1) := by decide +kernel
theorem dX2_findOrder_25 : decode cX2_findOrder 25 = .ok (.aload_n 0, 1) := by decide +kernel
theorem dX2_findOrder_26 : decode cX2_findOrder 26 = .ok (.invokevirtual 55, 3) := by decide +kernel
theorem dX2_findOrder_29 : decode cX2_findOrder 29 = .ok (.iload_n 2, 1) := by decide +kernel
theorem dX2_findOrder_30 : decode cX2_findOrder 30 = .ok (.invokevirtual 59, 3) := by decide +kernel
theorem dX2_findOrder_33 : decode cX2_findOrder 33 = .ok (.iinc 2 1, 3) := by decide +kernel
theorem dX2_findOrder_36 : decode cX2_findOrder 36 = .ok (.goto (-29), 3) := by decide +kernel
theorem dX2_findOrder_39 : decode cX2_findOrder 39 = .ok (.return_, 1) := by decide +kernel
theorem dX2_keepOrder_0 : decode cX2_keepOrder 0 = .ok (.aload_n 0, 1) := by decide +kernel
theorem dX2_keepOrder_1 : decode cX2_keepOrder 1 = .ok (.aload_n 1, 1) := by decide +kernel
theorem dX2_keepOrder_2 : decode cX2_keepOrder 2 = .ok (.invokevirtual 43, 3) := by decide +kernel
theorem dX2_keepOrder_5 : decode cX2_keepOrder 5 = .ok (.iconst 0, 1) := by decide +kernel
theorem dX2_keepOrder_6 : decode cX2_keepOrder 6 = .ok (.istore_n 2, 1) := by decide +kernel
theorem dX2_keepOrder_7 : decode cX2_keepOrder 7 = .ok (.iload_n 2, 1) := by decide +kernel
theorem dX2_keepOrder_8 : decode cX2_keepOrder 8 = .ok (.aload_n 0, 1) := by decide +kernel
theorem dX2_keepOrder_9 : decode cX2_keepOrder 9 = .ok (.getfield 47, 3) := by decide +kernel
theorem dX2_keepOrder_12 : decode cX2_keepOrder 12 = .ok (.if_icmp .ge 29, 3) := by decide +kernel
theorem dX2_keepOrder_15 : decode cX2_keepOrder 15 = .ok (.aload_n 0, 1) := by decide +kernel
theorem dX2_keepOrder_16 : decode cX2_keepOrder 16 = .ok (.aload_n 0, 1) := by decide +kernel
theorem dX2_keepOrder_17 : decode cX2_keepOrder 17 = .ok (.getfield 34, 3) := by decide +kernel
theorem dX2_keepOrder_20 : decode cX2_keepOrder 20 = .ok (.iconst (-1), 1) := by decide +kernel
theorem dX2_keepOrder_21 : decode cX2_keepOrder 21 = .ok (.invokevirtual 51, 3) := by decide +kernel
theorem dX2_keepOrder_24 : decode cX2_keepOrder 24 = .ok (.aload_n 0, 1) := by decide +kernel
theorem dX2_keepOrder_25 : decode cX2_keepOrder 25 = .ok (.aload_n 0, 1) := by decide +kernel
theorem dX2_keepOrder_26 : decode cX2_keepOrder 26 = .ok (.getfield 25, 3) := by decide +kernel
theorem dX2_keepOrder_29 : decode cX2_keepOrder 29 = .ok (.iload_n 2, 1) := by decide +kernel
theorem dX2_keepOrder_30 : decode cX2_keepOrder 30 = .ok (.iaload, 1) := by decide +kernel
theorem dX2_keepOrder_31 : decode cX2_keepOrder 31 = .ok (.iload_n 2, 1) := by decide +kernel
theorem dX2_keepOrder_32 : decode cX2_keepOrder 32 = .ok (.invokevirtual 59, 3) := by decide +kernel
theorem dX2_keepOrder_35 : decode cX2_keepOrder 35 = .ok (.iinc 2 1, 3) := by decide +kernel
theorem dX2_keepOrder_38 : decode cX2_keepOrder 38 = .ok (.goto (-31), 3) := by decide +kernel
theorem dX2_keepOrder_41 : decode cX2_keepOrder 41 = .ok (.return_, 1) := by decide +kernel
theorem dX2_noteRanks_0 : decode cX2_noteRanks 0 = .ok (.aload_n 0, 1) := by decide +kernel
theorem dX2_noteRanks_1 : decode cX2_noteRanks 1 = .ok (.getfield 21, 3) := by decide +kernel
theorem dX2_noteRanks_4 : decode cX2_noteRanks 4 = .ok (.iconst 0, 1) := by decide +kernel
theorem dX2_noteRanks_5 : decode cX2_noteRanks 5 = .ok (.aload_n 0, 1) := by decide +kernel
theorem dX2_noteRanks_6 : decode cX2_noteRanks 6 = .ok (.getfield 31, 3) := by decide +kernel
theorem dX2_noteRanks_9 : decode cX2_noteRanks 9 = .ok (.iconst 0, 1) := by decide +kernel
theorem dX2_noteRanks_10 : decode cX2_noteRanks 10 = .ok (.bipush 12, 2) := by decide +kernel
theorem dX2_noteRanks_12 : decode cX2_noteRanks 12 = .ok (.invokestatic 63, 3) := by decide +kernel
theorem dX2_noteRanks_15 : decode cX2_noteRanks 15 = .ok (.return_, 1) := by decide +kernel
theorem dX2_countMoved_0 : decode cX2_countMoved 0 = .ok (.iconst 0, 1) := by decide +kernel
theorem dX2_countMoved_1 : decode cX2_countMoved 1 = .ok (.istore_n 1, 1) := by decide +kernel
theorem dX2_countMoved_2 : decode cX2_countMoved 2 = .ok (.iconst 0, 1) := by decide +kernel
theorem dX2_countMoved_3 : decode cX2_countMoved 3 = .ok (.istore_n 2, 1) := by decide +kernel
theorem dX2_countMoved_4 : decode cX2_countMoved 4 = .ok (.iload_n 2, 1) := by decide +kernel
theorem dX2_countMoved_5 : decode cX2_countMoved 5 = .ok (.aload_n 0, 1) := by decide +kernel
theorem dX2_countMoved_6 : decode cX2_countMoved 6 = .ok (.getfield 47, 3) := by decide +kernel
theorem dX2_countMoved_9 : decode cX2_countMoved 9 = .ok (.if_icmp .ge 32, 3) := by decide +kernel
theorem dX2_countMoved_12 : decode cX2_countMoved 12 = .ok (.iload_n 1, 1) := by decide +kernel
theorem dX2_countMoved_13 : decode cX2_countMoved 13 = .ok (.aload_n 0, 1) := by decide +kernel
theorem dX2_countMoved_14 : decode cX2_countMoved 14 = .ok (.getfield 21, 3) := by decide +kernel
theorem dX2_countMoved_17 : decode cX2_countMoved 17 = .ok (.iload_n 2, 1) := by decide +kernel
theorem dX2_countMoved_18 : decode cX2_countMoved 18 = .ok (.iaload, 1) := by decide +kernel
theorem dX2_countMoved_19 : decode cX2_countMoved 19 = .ok (.aload_n 0, 1) := by decide +kernel
theorem dX2_countMoved_20 : decode cX2_countMoved 20 = .ok (.getfield 31, 3) := by decide +kernel
theorem dX2_countMoved_23 : decode cX2_countMoved 23 = .ok (.iload_n 2, 1) := by decide +kernel
theorem dX2_countMoved_24 : decode cX2_countMoved 24 = .ok (.iaload, 1) := by decide +kernel
theorem dX2_countMoved_25 : decode cX2_countMoved 25 = .ok (.if_icmp .eq 7, 3) := by decide +kernel
theorem dX2_countMoved_28 : decode cX2_countMoved 28 = .ok (.iconst 1, 1) := by decide +kernel
theorem dX2_countMoved_29 : decode cX2_countMoved 29 = .ok (.goto 4, 3) := by decide +kernel
theorem dX2_countMoved_32 : decode cX2_countMoved 32 = .ok (.iconst 0, 1) := by decide +kernel
theorem dX2_countMoved_33 : decode cX2_countMoved 33 = .ok (.iadd, 1) := by decide +kernel
theorem dX2_countMoved_34 : decode cX2_countMoved 34 = .ok (.istore_n 1, 1) := by decide +kernel
theorem dX2_countMoved_35 : decode cX2_countMoved 35 = .ok (.iinc 2 1, 3) := by decide +kernel
theorem dX2_countMoved_38 : decode cX2_countMoved 38 = .ok (.goto (-34), 3) := by decide +kernel
theorem dX2_countMoved_41 : decode cX2_countMoved 41 = .ok (.iload_n 1, 1) := by decide +kernel
theorem dX2_countMoved_42 : decode cX2_countMoved 42 = .ok (.ireturn, 1) := by decide +kernel
theorem dX2_startAnew_0 : decode cX2_startAnew 0 = .ok (.aload_n 0, 1) := by decide +kernel
theorem dX2_startAnew_1 : decode cX2_startAnew 1 = .ok (.aload_n 1, 1) := by decide +kernel
theorem dX2_startAnew_2 : decode cX2_startAnew 2 = .ok (.getfield 69, 3) := by decide +kernel
theorem dX2_startAnew_5 : decode cX2_startAnew 5 = .ok (.putfield 47, 3) := by decide +kernel
theorem dX2_startAnew_8 : decode cX2_startAnew 8 = .ok (.iconst 0, 1) := by decide +kernel
theorem dX2_startAnew_9 : decode cX2_startAnew 9 = .ok (.istore_n 2, 1) := by decide +kernel
theorem dX2_startAnew_10 : decode cX2_startAnew 10 = .ok (.iload_n 2, 1) := by decide +kernel
theorem dX2_startAnew_11 : decode cX2_startAnew 11 = .ok (.aload_n 0, 1) := by decide +kernel
theorem dX2_startAnew_12 : decode cX2_startAnew 12 = .ok (.getfield 47, 3) := by decide +kernel
theorem dX2_startAnew_15 : decode cX2_startAnew 15 = .ok (.if_icmp .ge 57, 3) := by decide +kernel
theorem dX2_startAnew_18 : decode cX2_startAnew 18 = .ok (.aload_n 0, 1) := by decide +kernel
theorem dX2_startAnew_19 : decode cX2_startAnew 19 = .ok (.getfield 21, 3) := by decide +kernel
theorem dX2_startAnew_22 : decode cX2_startAnew 22 = .ok (.iload_n 2, 1) := by decide +kernel
theorem dX2_startAnew_23 : decode cX2_startAnew 23 = .ok (.iconst (-1), 1) := by decide +kernel
theorem dX2_startAnew_24 : decode cX2_startAnew 24 = .ok (.iastore, 1) := by decide +kernel
theorem dX2_startAnew_25 : decode cX2_startAnew 25 = .ok (.iconst 0, 1) := by decide +kernel
theorem dX2_startAnew_26 : decode cX2_startAnew 26 = .ok (.istore_n 3, 1) := by decide +kernel
theorem dX2_startAnew_27 : decode cX2_startAnew 27 = .ok (.iload_n 3, 1) := by decide +kernel
theorem dX2_startAnew_28 : decode cX2_startAnew 28 = .ok (.aload_n 0, 1) := by decide +kernel
theorem dX2_startAnew_29 : decode cX2_startAnew 29 = .ok (.getfield 47, 3) := by decide +kernel
theorem dX2_startAnew_32 : decode cX2_startAnew 32 = .ok (.if_icmp .ge 34, 3) := by decide +kernel
theorem dX2_startAnew_35 : decode cX2_startAnew 35 = .ok (.aload_n 0, 1) := by decide +kernel
theorem dX2_startAnew_36 : decode cX2_startAnew 36 = .ok (.getfield 12, 3) := by decide +kernel
theorem dX2_startAnew_39 : decode cX2_startAnew 39 = .ok (.iload_n 2, 1) := by decide +kernel
theorem dX2_startAnew_40 : decode cX2_startAnew 40 = .ok (.iload_n 3, 1) := by decide +kernel
theorem dX2_startAnew_41 : decode cX2_startAnew 41 = .ok (.aload_n 1, 1) := by decide +kernel
theorem dX2_startAnew_42 : decode cX2_startAnew 42 = .ok (.iload_n 2, 1) := by decide +kernel
theorem dX2_startAnew_43 : decode cX2_startAnew 43 = .ok (.iload_n 3, 1) := by decide +kernel
theorem dX2_startAnew_44 : decode cX2_startAnew 44 = .ok (.invokevirtual 72, 3) := by decide +kernel
theorem dX2_startAnew_47 : decode cX2_startAnew 47 = .ok (.invokevirtual 76, 3) := by decide +kernel
theorem dX2_startAnew_50 : decode cX2_startAnew 50 = .ok (.aload_n 0, 1) := by decide +kernel
theorem dX2_startAnew_51 : decode cX2_startAnew 51 = .ok (.getfield 18, 3) := by decide +kernel
theorem dX2_startAnew_54 : decode cX2_startAnew 54 = .ok (.iload_n 2, 1) := by decide +kernel
theorem dX2_startAnew_55 : decode cX2_startAnew 55 = .ok (.iload_n 3, 1) := by decide +kernel
theorem dX2_startAnew_56 : decode cX2_startAnew 56 = .ok (.iconst (-1), 1) := by decide +kernel
theorem dX2_startAnew_57 : decode cX2_startAnew 57 = .ok (.invokevirtual 76, 3) := by decide +kernel
theorem dX2_startAnew_60 : decode cX2_startAnew 60 = .ok (.iinc 3 1, 3) := by decide +kernel
theorem dX2_startAnew_63 : decode cX2_startAnew 63 = .ok (.goto (-36), 3) := by decide +kernel
theorem dX2_startAnew_66 : decode cX2_startAnew 66 = .ok (.iinc 2 1, 3) := by decide +kernel
theorem dX2_startAnew_69 : decode cX2_startAnew 69 = .ok (.goto (-59), 3) := by decide +kernel
theorem dX2_startAnew_72 : decode cX2_startAnew 72 = .ok (.return_, 1) := by decide +kernel
theorem dX2_isFree_0 : decode cX2_isFree 0 = .ok (.aload_n 0, 1) := by decide +kernel
theorem dX2_isFree_1 : decode cX2_isFree 1 = .ok (.getfield 21, 3) := by decide +kernel
theorem dX2_isFree_4 : decode cX2_isFree 4 = .ok (.iload_n 1, 1) := by decide +kernel
theorem dX2_isFree_5 : decode cX2_isFree 5 = .ok (.iaload, 1) := by decide +kernel
theorem dX2_isFree_6 : decode cX2_isFree 6 = .ok (.iconst (-1), 1) := by decide +kernel
theorem dX2_isFree_7 : decode cX2_isFree 7 = .ok (.if_icmp .ne 7, 3) := by decide +kernel
theorem dX2_isFree_10 : decode cX2_isFree 10 = .ok (.iconst 1, 1) := by decide +kernel
theorem dX2_isFree_11 : decode cX2_isFree 11 = .ok (.goto 4, 3) := by decide +kernel
theorem dX2_isFree_14 : decode cX2_isFree 14 = .ok (.iconst 0, 1) := by decide +kernel
theorem dX2_isFree_15 : decode cX2_isFree 15 = .ok (.ireturn, 1) := by decide +kernel
theorem dX2_measureFree_0 : decode cX2_measureFree 0 = .ok (.iconst 0, 1) := by decide +kernel
theorem dX2_measureFree_1 : decode cX2_measureFree 1 = .ok (.istore_n 3, 1) := by decide +kernel
theorem dX2_measureFree_2 : decode cX2_measureFree 2 = .ok (.iload_n 3, 1) := by decide +kernel
theorem dX2_measureFree_3 : decode cX2_measureFree 3 = .ok (.aload_n 0, 1) := by decide +kernel
theorem dX2_measureFree_4 : decode cX2_measureFree 4 = .ok (.getfield 47, 3) := by decide +kernel
theorem dX2_measureFree_7 : decode cX2_measureFree 7 = .ok (.if_icmp .ge 89, 3) := by decide +kernel
theorem dX2_measureFree_10 : decode cX2_measureFree 10 = .ok (.iconst 0, 1) := by decide +kernel
theorem dX2_measureFree_11 : decode cX2_measureFree 11 = .ok (.istore 4, 2) := by decide +kernel
theorem dX2_measureFree_13 : decode cX2_measureFree 13 = .ok (.iload 4, 2) := by decide +kernel
theorem dX2_measureFree_15 : decode cX2_measureFree 15 = .ok (.aload_n 0, 1) := by decide +kernel
theorem dX2_measureFree_16 : decode cX2_measureFree 16 = .ok (.getfield 47, 3) := by decide +kernel
theorem dX2_measureFree_19 : decode cX2_measureFree 19 = .ok (.if_icmp .ge 71, 3) := by decide +kernel
theorem dX2_measureFree_22 : decode cX2_measureFree 22 = .ok (.aload_n 0, 1) := by decide +kernel
theorem dX2_measureFree_23 : decode cX2_measureFree 23 = .ok (.iload_n 3, 1) := by decide +kernel
theorem dX2_measureFree_24 : decode cX2_measureFree 24 = .ok (.invokevirtual 80, 3) := by decide +kernel
theorem dX2_measureFree_27 : decode cX2_measureFree 27 = .ok (.ifCond .eq 27, 3) := by decide +kernel
theorem dX2_measureFree_30 : decode cX2_measureFree 30 = .ok (.aload_n 0, 1) := by decide +kernel
theorem dX2_measureFree_31 : decode cX2_measureFree 31 = .ok (.iload 4, 2) := by decide +kernel
theorem dX2_measureFree_33 : decode cX2_measureFree 33 = .ok (.invokevirtual 80, 3) := by decide +kernel
theorem dX2_measureFree_36 : decode cX2_measureFree 36 = .ok (.ifCond .eq 18, 3) := by decide +kernel
theorem dX2_measureFree_39 : decode cX2_measureFree 39 = .ok (.iload_n 3, 1) := by decide +kernel
theorem dX2_measureFree_40 : decode cX2_measureFree 40 = .ok (.iload_n 2, 1) := by decide +kernel
theorem dX2_measureFree_41 : decode cX2_measureFree 41 = .ok (.if_icmp .eq 13, 3) := by decide +kernel
theorem dX2_measureFree_44 : decode cX2_measureFree 44 = .ok (.iload 4, 2) := by decide +kernel
theorem dX2_measureFree_46 : decode cX2_measureFree 46 = .ok (.iload_n 2, 1) := by decide +kernel
theorem dX2_measureFree_47 : decode cX2_measureFree 47 = .ok (.if_icmp .eq 7, 3) := by decide +kernel
theorem dX2_measureFree_50 : decode cX2_measureFree 50 = .ok (.iconst 1, 1) := by decide +kernel
theorem dX2_measureFree_51 : decode cX2_measureFree 51 = .ok (.goto 4, 3) := by decide +kernel
theorem dX2_measureFree_54 : decode cX2_measureFree 54 = .ok (.iconst 0, 1) := by decide +kernel
theorem dX2_measureFree_55 : decode cX2_measureFree 55 = .ok (.istore 5, 2) := by decide +kernel
theorem dX2_measureFree_57 : decode cX2_measureFree 57 = .ok (.aload_n 1, 1) := by decide +kernel
theorem dX2_measureFree_58 : decode cX2_measureFree 58 = .ok (.iload_n 3, 1) := by decide +kernel
theorem dX2_measureFree_59 : decode cX2_measureFree 59 = .ok (.iload 4, 2) := by decide +kernel
theorem dX2_measureFree_61 : decode cX2_measureFree 61 = .ok (.iload 5, 2) := by decide +kernel
theorem dX2_measureFree_63 : decode cX2_measureFree 63 = .ok (.ifCond .eq 16, 3) := by decide +kernel
theorem dX2_measureFree_66 : decode cX2_measureFree 66 = .ok (.aload_n 0, 1) := by decide +kernel
theorem dX2_measureFree_67 : decode cX2_measureFree 67 = .ok (.getfield 12, 3) := by decide +kernel
theorem dX2_measureFree_70 : decode cX2_measureFree 70 = .ok (.iload_n 3, 1) := by decide +kernel
theorem dX2_measureFree_71 : decode cX2_measureFree 71 = .ok (.iload 4, 2) := by decide +kernel
theorem dX2_measureFree_73 : decode cX2_measureFree 73 = .ok (.invokevirtual 84, 3) := by decide +kernel
theorem dX2_measureFree_76 : decode cX2_measureFree 76 = .ok (.goto 5, 3) := by decide +kernel
theorem dX2_measureFree_79 : decode cX2_measureFree 79 = .ok (.ldc 87, 2) := by decide +kernel
theorem dX2_measureFree_81 : decode cX2_measureFree 81 = .ok (.invokevirtual 76, 3) := by decide +kernel
theorem dX2_measureFree_84 : decode cX2_measureFree 84 = .ok (.iinc 4 1, 3) := by decide +kernel
theorem dX2_measureFree_87 : decode cX2_measureFree 87 = .ok (.goto (-74), 3) := by decide +kernel
theorem dX2_measureFree_90 : decode cX2_measureFree 90 = .ok (.iinc 3 1, 3) := by decide +kernel
theorem dX2_measureFree_93 : decode cX2_measureFree 93 = .ok (.goto (-91), 3) := by decide +kernel
theorem dX2_measureFree_96 : decode cX2_measureFree 96 = .ok (.aload_n 1, 1) := by decide +kernel
theorem dX2_measureFree_97 : decode cX2_measureFree 97 = .ok (.aload_n 0, 1) := by decide +kernel
theorem dX2_measureFree_98 : decode cX2_measureFree 98 = .ok (.getfield 47, 3) := by decide +kernel
theorem dX2_measureFree_101 : decode cX2_measureFree 101 = .ok (.invokevirtual 88, 3) := by decide +kernel
theorem dX2_measureFree_104 : decode cX2_measureFree 104 = .ok (.return_, 1) := by decide +kernel
theorem dX2_pickNext_0 : decode cX2_pickNext 0 = .ok (.iconst 0, 1) := by decide +kernel
theorem dX2_pickNext_1 : decode cX2_pickNext 1 = .ok (.istore_n 1, 1) := by decide +kernel
theorem dX2_pickNext_2 : decode cX2_pickNext 2 = .ok (.ldc 87, 2) := by decide +kernel
theorem dX2_pickNext_4 : decode cX2_pickNext 4 = .ok (.istore_n 2, 1) := by decide +kernel
theorem dX2_pickNext_5 : decode cX2_pickNext 5 = .ok (.iconst 0, 1) := by decide +kernel
theorem dX2_pickNext_6 : decode cX2_pickNext 6 = .ok (.istore_n 3, 1) := by decide +kernel
theorem dX2_pickNext_7 : decode cX2_pickNext 7 = .ok (.iload_n 3, 1) := by decide +kernel
theorem dX2_pickNext_8 : decode cX2_pickNext 8 = .ok (.aload_n 0, 1) := by decide +kernel
theorem dX2_pickNext_9 : decode cX2_pickNext 9 = .ok (.getfield 47, 3) := by decide +kernel
theorem dX2_pickNext_12 : decode cX2_pickNext 12 = .ok (.if_icmp .ge 41, 3) := by decide +kernel
theorem dX2_pickNext_15 : decode cX2_pickNext 15 = .ok (.aload_n 0, 1) := by decide +kernel
theorem dX2_pickNext_16 : decode cX2_pickNext 16 = .ok (.iload_n 3, 1) := by decide +kernel
theorem dX2_pickNext_17 : decode cX2_pickNext 17 = .ok (.invokevirtual 80, 3) := by decide +kernel
theorem dX2_pickNext_20 : decode cX2_pickNext 20 = .ok (.ifCond .eq 27, 3) := by decide +kernel
theorem dX2_pickNext_23 : decode cX2_pickNext 23 = .ok (.aload_n 0, 1) := by decide +kernel
theorem dX2_pickNext_24 : decode cX2_pickNext 24 = .ok (.iload_n 3, 1) := by decide +kernel
theorem dX2_pickNext_25 : decode cX2_pickNext 25 = .ok (.invokevirtual 92, 3) := by decide +kernel
theorem dX2_pickNext_28 : decode cX2_pickNext 28 = .ok (.aload_n 0, 1) := by decide +kernel
theorem dX2_pickNext_29 : decode cX2_pickNext 29 = .ok (.iload_n 3, 1) := by decide +kernel
theorem dX2_pickNext_30 : decode cX2_pickNext 30 = .ok (.invokevirtual 96, 3) := by decide +kernel
theorem dX2_pickNext_33 : decode cX2_pickNext 33 = .ok (.isub, 1) := by decide +kernel
theorem dX2_pickNext_34 : decode cX2_pickNext 34 = .ok (.istore 4, 2) := by decide +kernel
theorem dX2_pickNext_36 : decode cX2_pickNext 36 = .ok (.iload 4, 2) := by decide +kernel
theorem dX2_pickNext_38 : decode cX2_pickNext 38 = .ok (.iload_n 2, 1) := by decide +kernel
theorem dX2_pickNext_39 : decode cX2_pickNext 39 = .ok (.if_icmp .ge 8, 3) := by decide +kernel
theorem dX2_pickNext_42 : decode cX2_pickNext 42 = .ok (.iload_n 3, 1) := by decide +kernel
theorem dX2_pickNext_43 : decode cX2_pickNext 43 = .ok (.istore_n 1, 1) := by decide +kernel
theorem dX2_pickNext_44 : decode cX2_pickNext 44 = .ok (.iload 4, 2) := by decide +kernel
theorem dX2_pickNext_46 : decode cX2_pickNext 46 = .ok (.istore_n 2, 1) := by decide +kernel
theorem dX2_pickNext_47 : decode cX2_pickNext 47 = .ok (.iinc 3 1, 3) := by decide +kernel
theorem dX2_pickNext_50 : decode cX2_pickNext 50 = .ok (.goto (-43), 3) := by decide +kernel
theorem dX2_pickNext_53 : decode cX2_pickNext 53 = .ok (.iload_n 1, 1) := by decide +kernel
theorem dX2_pickNext_54 : decode cX2_pickNext 54 = .ok (.ireturn, 1) := by decide +kernel
theorem dX2_countFreeArcs_0 : decode cX2_countFreeArcs 0 = .ok (.iconst 0, 1) := by decide +kernel
theorem dX2_countFreeArcs_1 : decode cX2_countFreeArcs 1 = .ok (.istore_n 2, 1) := by decide +kernel
theorem dX2_countFreeArcs_2 : decode cX2_countFreeArcs 2 = .ok (.iconst 0, 1) := by decide +kernel
theorem dX2_countFreeArcs_3 : decode cX2_countFreeArcs 3 = .ok (.istore_n 3, 1) := by decide +kernel
theorem dX2_countFreeArcs_4 : decode cX2_countFreeArcs 4 = .ok (.iload_n 3, 1) := by decide +kernel
theorem dX2_countFreeArcs_5 : decode cX2_countFreeArcs 5 = .ok (.aload_n 0, 1) := by decide +kernel
theorem dX2_countFreeArcs_6 : decode cX2_countFreeArcs 6 = .ok (.getfield 47, 3) := by decide +kernel
theorem dX2_countFreeArcs_9 : decode cX2_countFreeArcs 9 = .ok (.if_icmp .ge 51, 3) := by decide +kernel
theorem dX2_countFreeArcs_12 : decode cX2_countFreeArcs 12 = .ok (.aload_n 0, 1) := by decide +kernel
theorem dX2_countFreeArcs_13 : decode cX2_countFreeArcs 13 = .ok (.iload_n 3, 1) := by decide +kernel
theorem dX2_countFreeArcs_14 : decode cX2_countFreeArcs 14 = .ok (.invokevirtual 80, 3) := by decide +kernel
theorem dX2_countFreeArcs_17 : decode cX2_countFreeArcs 17 = .ok (.ifCond .eq 37, 3) := by decide +kernel
theorem dX2_countFreeArcs_20 : decode cX2_countFreeArcs 20 = .ok (.iload_n 2, 1) := by decide +kernel
theorem dX2_countFreeArcs_21 : decode cX2_countFreeArcs 21 = .ok (.aload_n 0, 1) := by decide +kernel
theorem dX2_countFreeArcs_22 : decode cX2_countFreeArcs 22 = .ok (.iload_n 1, 1) := by decide +kernel
theorem dX2_countFreeArcs_23 : decode cX2_countFreeArcs 23 = .ok (.iload_n 3, 1) := by decide +kernel
theorem dX2_countFreeArcs_24 : decode cX2_countFreeArcs 24 = .ok (.invokevirtual 99, 3) := by decide +kernel
theorem dX2_countFreeArcs_27 : decode cX2_countFreeArcs 27 = .ok (.ifCond .eq 7, 3) := by decide +kernel
theorem dX2_countFreeArcs_30 : decode cX2_countFreeArcs 30 = .ok (.iconst 1, 1) := by decide +kernel
theorem dX2_countFreeArcs_31 : decode cX2_countFreeArcs 31 = .ok (.goto 4, 3) := by decide +kernel
theorem dX2_countFreeArcs_34 : decode cX2_countFreeArcs 34 = .ok (.iconst 0, 1) := by decide +kernel
theorem dX2_countFreeArcs_35 : decode cX2_countFreeArcs 35 = .ok (.iadd, 1) := by decide +kernel
theorem dX2_countFreeArcs_36 : decode cX2_countFreeArcs 36 = .ok (.istore_n 2, 1) := by decide +kernel
theorem dX2_countFreeArcs_37 : decode cX2_countFreeArcs 37 = .ok (.iload_n 2, 1) := by decide +kernel
theorem dX2_countFreeArcs_38 : decode cX2_countFreeArcs 38 = .ok (.aload_n 0, 1) := by decide +kernel
theorem dX2_countFreeArcs_39 : decode cX2_countFreeArcs 39 = .ok (.iload_n 3, 1) := by decide +kernel
theorem dX2_countFreeArcs_40 : decode cX2_countFreeArcs 40 = .ok (.iload_n 1, 1) := by decide +kernel
theorem dX2_countFreeArcs_41 : decode cX2_countFreeArcs 41 = .ok (.invokevirtual 99, 3) := by decide +kernel
theorem dX2_countFreeArcs_44 : decode cX2_countFreeArcs 44 = .ok (.ifCond .eq 7, 3) := by decide +kernel
theorem dX2_countFreeArcs_47 : decode cX2_countFreeArcs 47 = .ok (.iconst 1, 1) := by decide +kernel
theorem dX2_countFreeArcs_48 : decode cX2_countFreeArcs 48 = .ok (.goto 4, 3) := by decide +kernel
theorem dX2_countFreeArcs_51 : decode cX2_countFreeArcs 51 = .ok (.iconst 0, 1) := by decide +kernel
theorem dX2_countFreeArcs_52 : decode cX2_countFreeArcs 52 = .ok (.iadd, 1) := by decide +kernel
theorem dX2_countFreeArcs_53 : decode cX2_countFreeArcs 53 = .ok (.istore_n 2, 1) := by decide +kernel
theorem dX2_countFreeArcs_54 : decode cX2_countFreeArcs 54 = .ok (.iinc 3 1, 3) := by decide +kernel
theorem dX2_countFreeArcs_57 : decode cX2_countFreeArcs 57 = .ok (.goto (-53), 3) := by decide +kernel
theorem dX2_countFreeArcs_60 : decode cX2_countFreeArcs 60 = .ok (.iload_n 2, 1) := by decide +kernel
theorem dX2_countFreeArcs_61 : decode cX2_countFreeArcs 61 = .ok (.ireturn, 1) := by decide +kernel
theorem dX2_markNeeded_0 : decode cX2_markNeeded 0 = .ok (.aload_n 0, 1) := by decide +kernel
theorem dX2_markNeeded_1 : decode cX2_markNeeded 1 = .ok (.aload_n 0, 1) := by decide +kernel
theorem dX2_markNeeded_2 : decode cX2_markNeeded 2 = .ok (.getfield 37, 3) := by decide +kernel
theorem dX2_markNeeded_5 : decode cX2_markNeeded 5 = .ok (.iload_n 1, 1) := by decide +kernel
theorem dX2_markNeeded_6 : decode cX2_markNeeded 6 = .ok (.invokevirtual 51, 3) := by decide +kernel
theorem dX2_markNeeded_9 : decode cX2_markNeeded 9 = .ok (.iconst 0, 1) := by decide +kernel
theorem dX2_markNeeded_10 : decode cX2_markNeeded 10 = .ok (.istore_n 2, 1) := by decide +kernel
theorem dX2_markNeeded_11 : decode cX2_markNeeded 11 = .ok (.iconst 0, 1) := by decide +kernel
theorem dX2_markNeeded_12 : decode cX2_markNeeded 12 = .ok (.istore_n 3, 1) := by decide +kernel
theorem dX2_markNeeded_13 : decode cX2_markNeeded 13 = .ok (.iload_n 3, 1) := by decide +kernel
theorem dX2_markNeeded_14 : decode cX2_markNeeded 14 = .ok (.aload_n 0, 1) := by decide +kernel
theorem dX2_markNeeded_15 : decode cX2_markNeeded 15 = .ok (.getfield 47, 3) := by decide +kernel
theorem dX2_markNeeded_18 : decode cX2_markNeeded 18 = .ok (.if_icmp .ge 62, 3) := by decide +kernel
theorem dX2_markNeeded_21 : decode cX2_markNeeded 21 = .ok (.iconst 0, 1) := by decide +kernel
theorem dX2_markNeeded_22 : decode cX2_markNeeded 22 = .ok (.istore 4, 2) := by decide +kernel
theorem dX2_markNeeded_24 : decode cX2_markNeeded 24 = .ok (.iload 4, 2) := by decide +kernel
theorem dX2_markNeeded_26 : decode cX2_markNeeded 26 = .ok (.aload_n 0, 1) := by decide +kernel
theorem dX2_markNeeded_27 : decode cX2_markNeeded 27 = .ok (.getfield 47, 3) := by decide +kernel
theorem dX2_markNeeded_30 : decode cX2_markNeeded 30 = .ok (.if_icmp .ge 44, 3) := by decide +kernel
theorem dX2_markNeeded_33 : decode cX2_markNeeded 33 = .ok (.aload_n 0, 1) := by decide +kernel
theorem dX2_markNeeded_34 : decode cX2_markNeeded 34 = .ok (.iload_n 3, 1) := by decide +kernel
theorem dX2_markNeeded_35 : decode cX2_markNeeded 35 = .ok (.iload_n 1, 1) := by decide +kernel
theorem dX2_markNeeded_36 : decode cX2_markNeeded 36 = .ok (.iload 4, 2) := by decide +kernel
theorem dX2_markNeeded_38 : decode cX2_markNeeded 38 = .ok (.invokevirtual 103, 3) := by decide +kernel
theorem dX2_markNeeded_41 : decode cX2_markNeeded 41 = .ok (.ifCond .eq 7, 3) := by decide +kernel
theorem dX2_markNeeded_44 : decode cX2_markNeeded 44 = .ok (.iconst 1, 1) := by decide +kernel
theorem dX2_markNeeded_45 : decode cX2_markNeeded 45 = .ok (.goto 4, 3) := by decide +kernel
theorem dX2_markNeeded_48 : decode cX2_markNeeded 48 = .ok (.iconst 0, 1) := by decide +kernel
theorem dX2_markNeeded_49 : decode cX2_markNeeded 49 = .ok (.istore 5, 2) := by decide +kernel
theorem dX2_markNeeded_51 : decode cX2_markNeeded 51 = .ok (.aload_n 0, 1) := by decide +kernel
theorem dX2_markNeeded_52 : decode cX2_markNeeded 52 = .ok (.getfield 40, 3) := by decide +kernel
theorem dX2_markNeeded_55 : decode cX2_markNeeded 55 = .ok (.iload_n 3, 1) := by decide +kernel
theorem dX2_markNeeded_56 : decode cX2_markNeeded 56 = .ok (.iload 4, 2) := by decide +kernel
theorem dX2_markNeeded_58 : decode cX2_markNeeded 58 = .ok (.iload 5, 2) := by decide +kernel
theorem dX2_markNeeded_60 : decode cX2_markNeeded 60 = .ok (.invokevirtual 76, 3) := by decide +kernel
theorem dX2_markNeeded_63 : decode cX2_markNeeded 63 = .ok (.iload_n 2, 1) := by decide +kernel
theorem dX2_markNeeded_64 : decode cX2_markNeeded 64 = .ok (.iload 5, 2) := by decide +kernel
theorem dX2_markNeeded_66 : decode cX2_markNeeded 66 = .ok (.iadd, 1) := by decide +kernel
theorem dX2_markNeeded_67 : decode cX2_markNeeded 67 = .ok (.istore_n 2, 1) := by decide +kernel
theorem dX2_markNeeded_68 : decode cX2_markNeeded 68 = .ok (.iinc 4 1, 3) := by decide +kernel
theorem dX2_markNeeded_71 : decode cX2_markNeeded 71 = .ok (.goto (-47), 3) := by decide +kernel
theorem dX2_markNeeded_74 : decode cX2_markNeeded 74 = .ok (.iinc 3 1, 3) := by decide +kernel
theorem dX2_markNeeded_77 : decode cX2_markNeeded 77 = .ok (.goto (-64), 3) := by decide +kernel
theorem dX2_markNeeded_80 : decode cX2_markNeeded 80 = .ok (.iload_n 2, 1) := by decide +kernel
theorem dX2_markNeeded_81 : decode cX2_markNeeded 81 = .ok (.ireturn, 1) := by decide +kernel
theorem dX2_isNeeded_0 : decode cX2_isNeeded 0 = .ok (.iload_n 1, 1) := by decide +kernel
theorem dX2_isNeeded_1 : decode cX2_isNeeded 1 = .ok (.iload_n 2, 1) := by decide +kernel
theorem dX2_isNeeded_2 : decode cX2_isNeeded 2 = .ok (.if_icmp .eq 13, 3) := by decide +kernel
theorem dX2_isNeeded_5 : decode cX2_isNeeded 5 = .ok (.iload_n 2, 1) := by decide +kernel
theorem dX2_isNeeded_6 : decode cX2_isNeeded 6 = .ok (.iload_n 3, 1) := by decide +kernel
theorem dX2_isNeeded_7 : decode cX2_isNeeded 7 = .ok (.if_icmp .eq 8, 3) := by decide +kernel
theorem dX2_isNeeded_10 : decode cX2_isNeeded 10 = .ok (.iload_n 1, 1) := by decide +kernel
theorem dX2_isNeeded_11 : decode cX2_isNeeded 11 = .ok (.iload_n 3, 1) := by decide +kernel
theorem dX2_isNeeded_12 : decode cX2_isNeeded 12 = .ok (.if_icmp .ne 5, 3) := by decide +kernel
theorem dX2_isNeeded_15 : decode cX2_isNeeded 15 = .ok (.iconst 0, 1) := by decide +kernel
theorem dX2_isNeeded_16 : decode cX2_isNeeded 16 = .ok (.ireturn, 1) := by decide +kernel
theorem dX2_isNeeded_17 : decode cX2_isNeeded 17 = .ok (.aload_n 0, 1) := by decide +kernel
theorem dX2_isNeeded_18 : decode cX2_isNeeded 18 = .ok (.iload_n 1, 1) := by decide +kernel
theorem dX2_isNeeded_19 : decode cX2_isNeeded 19 = .ok (.invokevirtual 80, 3) := by decide +kernel
theorem dX2_isNeeded_22 : decode cX2_isNeeded 22 = .ok (.ifCond .eq 29, 3) := by decide +kernel
theorem dX2_isNeeded_25 : decode cX2_isNeeded 25 = .ok (.aload_n 0, 1) := by decide +kernel
theorem dX2_isNeeded_26 : decode cX2_isNeeded 26 = .ok (.iload_n 3, 1) := by decide +kernel
theorem dX2_isNeeded_27 : decode cX2_isNeeded 27 = .ok (.invokevirtual 80, 3) := by decide +kernel
theorem dX2_isNeeded_30 : decode cX2_isNeeded 30 = .ok (.ifCond .eq 21, 3) := by decide +kernel
theorem dX2_isNeeded_33 : decode cX2_isNeeded 33 = .ok (.aload_n 0, 1) := by decide +kernel
theorem dX2_isNeeded_34 : decode cX2_isNeeded 34 = .ok (.iload_n 1, 1) := by decide +kernel
theorem dX2_isNeeded_35 : decode cX2_isNeeded 35 = .ok (.iload_n 2, 1) := by decide +kernel
theorem dX2_isNeeded_36 : decode cX2_isNeeded 36 = .ok (.invokevirtual 99, 3) := by decide +kernel
theorem dX2_isNeeded_39 : decode cX2_isNeeded 39 = .ok (.ifCond .eq 12, 3) := by decide +kernel
theorem dX2_isNeeded_42 : decode cX2_isNeeded 42 = .ok (.aload_n 0, 1) := by decide +kernel
theorem dX2_isNeeded_43 : decode cX2_isNeeded 43 = .ok (.iload_n 2, 1) := by decide +kernel
theorem dX2_isNeeded_44 : decode cX2_isNeeded 44 = .ok (.iload_n 3, 1) := by decide +kernel
theorem dX2_isNeeded_45 : decode cX2_isNeeded 45 = .ok (.invokevirtual 99, 3) := by decide +kernel
theorem dX2_isNeeded_48 : decode cX2_isNeeded 48 = .ok (.ifCond .ne 5, 3) := by decide +kernel
theorem dX2_isNeeded_51 : decode cX2_isNeeded 51 = .ok (.iconst 0, 1) := by decide +kernel
theorem dX2_isNeeded_52 : decode cX2_isNeeded 52 = .ok (.ireturn, 1) := by decide +kernel
theorem dX2_isNeeded_53 : decode cX2_isNeeded 53 = .ok (.aload_n 0, 1) := by decide +kernel
theorem dX2_isNeeded_54 : decode cX2_isNeeded 54 = .ok (.getfield 12, 3) := by decide +kernel
theorem dX2_isNeeded_57 : decode cX2_isNeeded 57 = .ok (.iload_n 1, 1) := by decide +kernel
theorem dX2_isNeeded_58 : decode cX2_isNeeded 58 = .ok (.iload_n 2, 1) := by decide +kernel
theorem dX2_isNeeded_59 : decode cX2_isNeeded 59 = .ok (.invokevirtual 84, 3) := by decide +kernel
theorem dX2_isNeeded_62 : decode cX2_isNeeded 62 = .ok (.aload_n 0, 1) := by decide +kernel
theorem dX2_isNeeded_63 : decode cX2_isNeeded 63 = .ok (.getfield 12, 3) := by decide +kernel
theorem dX2_isNeeded_66 : decode cX2_isNeeded 66 = .ok (.iload_n 2, 1) := by decide +kernel
theorem dX2_isNeeded_67 : decode cX2_isNeeded 67 = .ok (.iload_n 3, 1) := by decide +kernel
theorem dX2_isNeeded_68 : decode cX2_isNeeded 68 = .ok (.invokevirtual 84, 3) := by decide +kernel
theorem dX2_isNeeded_71 : decode cX2_isNeeded 71 = .ok (.iadd, 1) := by decide +kernel
theorem dX2_isNeeded_72 : decode cX2_isNeeded 72 = .ok (.istore 4, 2) := by decide +kernel
theorem dX2_isNeeded_74 : decode cX2_isNeeded 74 = .ok (.aload_n 0, 1) := by decide +kernel
theorem dX2_isNeeded_75 : decode cX2_isNeeded 75 = .ok (.getfield 34, 3) := by decide +kernel
theorem dX2_isNeeded_78 : decode cX2_isNeeded 78 = .ok (.iload_n 1, 1) := by decide +kernel
theorem dX2_isNeeded_79 : decode cX2_isNeeded 79 = .ok (.iload_n 2, 1) := by decide +kernel
theorem dX2_isNeeded_80 : decode cX2_isNeeded 80 = .ok (.invokevirtual 84, 3) := by decide +kernel
theorem dX2_isNeeded_83 : decode cX2_isNeeded 83 = .ok (.aload_n 0, 1) := by decide +kernel
theorem dX2_isNeeded_84 : decode cX2_isNeeded 84 = .ok (.getfield 34, 3) := by decide +kernel
theorem dX2_isNeeded_87 : decode cX2_isNeeded 87 = .ok (.iload_n 2, 1) := by decide +kernel
theorem dX2_isNeeded_88 : decode cX2_isNeeded 88 = .ok (.iload_n 3, 1) := by decide +kernel
theorem dX2_isNeeded_89 : decode cX2_isNeeded 89 = .ok (.invokevirtual 84, 3) := by decide +kernel
theorem dX2_isNeeded_92 : decode cX2_isNeeded 92 = .ok (.iadd, 1) := by decide +kernel
theorem dX2_isNeeded_93 : decode cX2_isNeeded 93 = .ok (.iload 4, 2) := by decide +kernel
theorem dX2_isNeeded_95 : decode cX2_isNeeded 95 = .ok (.if_icmp .lt 21, 3) := by decide +kernel
theorem dX2_isNeeded_98 : decode cX2_isNeeded 98 = .ok (.aload_n 0, 1) := by decide +kernel
theorem dX2_isNeeded_99 : decode cX2_isNeeded 99 = .ok (.getfield 37, 3) := by decide +kernel
theorem dX2_isNeeded_102 : decode cX2_isNeeded 102 = .ok (.iload_n 1, 1) := by decide +kernel
theorem dX2_isNeeded_103 : decode cX2_isNeeded 103 = .ok (.iload_n 3, 1) := by decide +kernel
theorem dX2_isNeeded_104 : decode cX2_isNeeded 104 = .ok (.invokevirtual 84, 3) := by decide +kernel
theorem dX2_isNeeded_107 : decode cX2_isNeeded 107 = .ok (.iload 4, 2) := by decide +kernel
theorem dX2_isNeeded_109 : decode cX2_isNeeded 109 = .ok (.if_icmp .le 7, 3) := by decide +kernel
theorem dX2_isNeeded_112 : decode cX2_isNeeded 112 = .ok (.iconst 1, 1) := by decide +kernel
theorem dX2_isNeeded_113 : decode cX2_isNeeded 113 = .ok (.goto 4, 3) := by decide +kernel
theorem dX2_isNeeded_116 : decode cX2_isNeeded 116 = .ok (.iconst 0, 1) := by decide +kernel
theorem dX2_isNeeded_117 : decode cX2_isNeeded 117 = .ok (.ireturn, 1) := by decide +kernel
theorem dX2_giveRank_0 : decode cX2_giveRank 0 = .ok (.aload_n 0, 1) := by decide +kernel
theorem dX2_giveRank_1 : decode cX2_giveRank 1 = .ok (.iload_n 1, 1) := by decide +kernel
theorem dX2_giveRank_2 : decode cX2_giveRank 2 = .ok (.invokevirtual 92, 3) := by decide +kernel
theorem dX2_giveRank_5 : decode cX2_giveRank 5 = .ok (.pop, 1) := by decide +kernel
theorem dX2_giveRank_6 : decode cX2_giveRank 6 = .ok (.iconst 0, 1) := by decide +kernel
theorem dX2_giveRank_7 : decode cX2_giveRank 7 = .ok (.istore_n 3, 1) := by decide +kernel
theorem dX2_giveRank_8 : decode cX2_giveRank 8 = .ok (.iload_n 3, 1) := by decide +kernel
theorem dX2_giveRank_9 : decode cX2_giveRank 9 = .ok (.aload_n 0, 1) := by decide +kernel
theorem dX2_giveRank_10 : decode cX2_giveRank 10 = .ok (.getfield 47, 3) := by decide +kernel
theorem dX2_giveRank_13 : decode cX2_giveRank 13 = .ok (.if_icmp .ge 82, 3) := by decide +kernel
theorem dX2_giveRank_16 : decode cX2_giveRank 16 = .ok (.iconst 0, 1) := by decide +kernel
theorem dX2_giveRank_17 : decode cX2_giveRank 17 = .ok (.istore 4, 2) := by decide +kernel
theorem dX2_giveRank_19 : decode cX2_giveRank 19 = .ok (.iload 4, 2) := by decide +kernel
theorem dX2_giveRank_21 : decode cX2_giveRank 21 = .ok (.aload_n 0, 1) := by decide +kernel
theorem dX2_giveRank_22 : decode cX2_giveRank 22 = .ok (.getfield 47, 3) := by decide +kernel
theorem dX2_giveRank_25 : decode cX2_giveRank 25 = .ok (.if_icmp .ge 64, 3) := by decide +kernel
theorem dX2_giveRank_28 : decode cX2_giveRank 28 = .ok (.aload_n 0, 1) := by decide +kernel
theorem dX2_giveRank_29 : decode cX2_giveRank 29 = .ok (.getfield 40, 3) := by decide +kernel
theorem dX2_giveRank_32 : decode cX2_giveRank 32 = .ok (.iload_n 3, 1) := by decide +kernel
theorem dX2_giveRank_33 : decode cX2_giveRank 33 = .ok (.iload 4, 2) := by decide +kernel
theorem dX2_giveRank_35 : decode cX2_giveRank 35 = .ok (.invokevirtual 84, 3) := by decide +kernel
theorem dX2_giveRank_38 : decode cX2_giveRank 38 = .ok (.iconst 1, 1) := by decide +kernel
theorem dX2_giveRank_39 : decode cX2_giveRank 39 = .ok (.if_icmp .ne 44, 3) := by decide +kernel
theorem dX2_giveRank_42 : decode cX2_giveRank 42 = .ok (.aload_n 0, 1) := by decide +kernel
theorem dX2_giveRank_43 : decode cX2_giveRank 43 = .ok (.getfield 12, 3) := by decide +kernel
theorem dX2_giveRank_46 : decode cX2_giveRank 46 = .ok (.iload_n 3, 1) := by decide +kernel
theorem dX2_giveRank_47 : decode cX2_giveRank 47 = .ok (.iload 4, 2) := by decide +kernel
theorem dX2_giveRank_49 : decode cX2_giveRank 49 = .ok (.aload_n 0, 1) := by decide +kernel
theorem dX2_giveRank_50 : decode cX2_giveRank 50 = .ok (.getfield 12, 3) := by decide +kernel
theorem dX2_giveRank_53 : decode cX2_giveRank 53 = .ok (.iload_n 3, 1) := by decide +kernel
theorem dX2_giveRank_54 : decode cX2_giveRank 54 = .ok (.iload_n 1, 1) := by decide +kernel
theorem dX2_giveRank_55 : decode cX2_giveRank 55 = .ok (.invokevirtual 84, 3) := by decide +kernel
theorem dX2_giveRank_58 : decode cX2_giveRank 58 = .ok (.aload_n 0, 1) := by decide +kernel
theorem dX2_giveRank_59 : decode cX2_giveRank 59 = .ok (.getfield 12, 3) := by decide +kernel
theorem dX2_giveRank_62 : decode cX2_giveRank 62 = .ok (.iload_n 1, 1) := by decide +kernel
theorem dX2_giveRank_63 : decode cX2_giveRank 63 = .ok (.iload 4, 2) := by decide +kernel
theorem dX2_giveRank_65 : decode cX2_giveRank 65 = .ok (.invokevirtual 84, 3) := by decide +kernel
theorem dX2_giveRank_68 : decode cX2_giveRank 68 = .ok (.iadd, 1) := by decide +kernel
theorem dX2_giveRank_69 : decode cX2_giveRank 69 = .ok (.invokevirtual 76, 3) := by decide +kernel
theorem dX2_giveRank_72 : decode cX2_giveRank 72 = .ok (.aload_n 0, 1) := by decide +kernel
theorem dX2_giveRank_73 : decode cX2_giveRank 73 = .ok (.getfield 18, 3) := by decide +kernel
theorem dX2_giveRank_76 : decode cX2_giveRank 76 = .ok (.iload_n 3, 1) := by decide +kernel
theorem dX2_giveRank_77 : decode cX2_giveRank 77 = .ok (.iload 4, 2) := by decide +kernel
theorem dX2_giveRank_79 : decode cX2_giveRank 79 = .ok (.iload_n 1, 1) := by decide +kernel
theorem dX2_giveRank_80 : decode cX2_giveRank 80 = .ok (.invokevirtual 76, 3) := by decide +kernel
theorem dX2_giveRank_83 : decode cX2_giveRank 83 = .ok (.iinc 4 1, 3) := by decide +kernel
theorem dX2_giveRank_86 : decode cX2_giveRank 86 = .ok (.goto (-67), 3) := by decide +kernel
theorem dX2_giveRank_89 : decode cX2_giveRank 89 = .ok (.iinc 3 1, 3) := by decide +kernel
theorem dX2_giveRank_92 : decode cX2_giveRank 92 = .ok (.goto (-84), 3) := by decide +kernel
theorem dX2_giveRank_95 : decode cX2_giveRank 95 = .ok (.aload_n 0, 1) := by decide +kernel
theorem dX2_giveRank_96 : decode cX2_giveRank 96 = .ok (.getfield 21, 3) := by decide +kernel
theorem dX2_giveRank_99 : decode cX2_giveRank 99 = .ok (.iload_n 1, 1) := by decide +kernel
theorem dX2_giveRank_100 : decode cX2_giveRank 100 = .ok (.iload_n 2, 1) := by decide +kernel
theorem dX2_giveRank_101 : decode cX2_giveRank 101 = .ok (.iastore, 1) := by decide +kernel
theorem dX2_giveRank_102 : decode cX2_giveRank 102 = .ok (.aload_n 0, 1) := by decide +kernel
theorem dX2_giveRank_103 : decode cX2_giveRank 103 = .ok (.getfield 25, 3) := by decide +kernel
theorem dX2_giveRank_106 : decode cX2_giveRank 106 = .ok (.iload_n 2, 1) := by decide +kernel
theorem dX2_giveRank_107 : decode cX2_giveRank 107 = .ok (.iload_n 1, 1) := by decide +kernel
theorem dX2_giveRank_108 : decode cX2_giveRank 108 = .ok (.iastore, 1) := by decide +kernel
theorem dX2_giveRank_109 : decode cX2_giveRank 109 = .ok (.return_, 1) := by decide +kernel
theorem dX2_hasArc_0 : decode cX2_hasArc 0 = .ok (.aload_n 0, 1) := by decide +kernel
theorem dX2_hasArc_1 : decode cX2_hasArc 1 = .ok (.getfield 12, 3) := by decide +kernel
theorem dX2_hasArc_4 : decode cX2_hasArc 4 = .ok (.iload_n 1, 1) := by decide +kernel
theorem dX2_hasArc_5 : decode cX2_hasArc 5 = .ok (.iload_n 2, 1) := by decide +kernel
theorem dX2_hasArc_6 : decode cX2_hasArc 6 = .ok (.invokevirtual 84, 3) := by decide +kernel
theorem dX2_hasArc_9 : decode cX2_hasArc 9 = .ok (.ldc 87, 2) := by decide +kernel
theorem dX2_hasArc_11 : decode cX2_hasArc 11 = .ok (.if_icmp .ge 7, 3) := by decide +kernel
theorem dX2_hasArc_14 : decode cX2_hasArc 14 = .ok (.iconst 1, 1) := by decide +kernel
theorem dX2_hasArc_15 : decode cX2_hasArc 15 = .ok (.goto 4, 3) := by decide +kernel
theorem dX2_hasArc_18 : decode cX2_hasArc 18 = .ok (.iconst 0, 1) := by decide +kernel
theorem dX2_hasArc_19 : decode cX2_hasArc 19 = .ok (.ireturn, 1) := by decide +kernel
theorem dX2_leadsUp_0 : decode cX2_leadsUp 0 = .ok (.aload_n 0, 1) := by decide +kernel
theorem dX2_leadsUp_1 : decode cX2_leadsUp 1 = .ok (.getfield 21, 3) := by decide +kernel
theorem dX2_leadsUp_4 : decode cX2_leadsUp 4 = .ok (.iload_n 2, 1) := by decide +kernel
theorem dX2_leadsUp_5 : decode cX2_leadsUp 5 = .ok (.iaload, 1) := by decide +kernel
theorem dX2_leadsUp_6 : decode cX2_leadsUp 6 = .ok (.aload_n 0, 1) := by decide +kernel
theorem dX2_leadsUp_7 : decode cX2_leadsUp 7 = .ok (.getfield 21, 3) := by decide +kernel
theorem dX2_leadsUp_10 : decode cX2_leadsUp 10 = .ok (.iload_n 1, 1) := by decide +kernel
theorem dX2_leadsUp_11 : decode cX2_leadsUp 11 = .ok (.iaload, 1) := by decide +kernel
theorem dX2_leadsUp_12 : decode cX2_leadsUp 12 = .ok (.if_icmp .le 7, 3) := by decide +kernel
theorem dX2_leadsUp_15 : decode cX2_leadsUp 15 = .ok (.iconst 1, 1) := by decide +kernel
theorem dX2_leadsUp_16 : decode cX2_leadsUp 16 = .ok (.goto 4, 3) := by decide +kernel
theorem dX2_leadsUp_19 : decode cX2_leadsUp 19 = .ok (.iconst 0, 1) := by decide +kernel
theorem dX2_leadsUp_20 : decode cX2_leadsUp 20 = .ok (.ireturn, 1) := by decide +kernel
theorem dX2_unpack_0 : decode cX2_unpack 0 = .ok (.aload_n 0, 1) := by decide +kernel
theorem dX2_unpack_1 : decode cX2_unpack 1 = .ok (.getfield 28, 3) := by decide +kernel
theorem dX2_unpack_4 : decode cX2_unpack 4 = .ok (.iconst 0, 1) := by decide +kernel
theorem dX2_unpack_5 : decode cX2_unpack 5 = .ok (.iload_n 1, 1) := by decide +kernel
theorem dX2_unpack_6 : decode cX2_unpack 6 = .ok (.iastore, 1) := by decide +kernel
theorem dX2_unpack_7 : decode cX2_unpack 7 = .ok (.aload_n 0, 1) := by decide +kernel
theorem dX2_unpack_8 : decode cX2_unpack 8 = .ok (.getfield 28, 3) := by decide +kernel
theorem dX2_unpack_11 : decode cX2_unpack 11 = .ok (.iconst 1, 1) := by decide +kernel
theorem dX2_unpack_12 : decode cX2_unpack 12 = .ok (.iload_n 2, 1) := by decide +kernel
theorem dX2_unpack_13 : decode cX2_unpack 13 = .ok (.iastore, 1) := by decide +kernel
theorem dX2_unpack_14 : decode cX2_unpack 14 = .ok (.iconst 2, 1) := by decide +kernel
theorem dX2_unpack_15 : decode cX2_unpack 15 = .ok (.istore_n 3, 1) := by decide +kernel
theorem dX2_unpack_16 : decode cX2_unpack 16 = .ok (.iconst 0, 1) := by decide +kernel
theorem dX2_unpack_17 : decode cX2_unpack 17 = .ok (.istore 4, 2) := by decide +kernel
theorem dX2_unpack_19 : decode cX2_unpack 19 = .ok (.iconst 0, 1) := by decide +kernel
theorem dX2_unpack_20 : decode cX2_unpack 20 = .ok (.istore 5, 2) := by decide +kernel
theorem dX2_unpack_22 : decode cX2_unpack 22 = .ok (.iload 5, 2) := by decide +kernel
theorem dX2_unpack_24 : decode cX2_unpack 24 = .ok (.bipush 24, 2) := by decide +kernel
theorem dX2_unpack_26 : decode cX2_unpack 26 = .ok (.if_icmp .ge 74, 3) := by decide +kernel
theorem dX2_unpack_29 : decode cX2_unpack 29 = .ok (.iload 4, 2) := by decide +kernel
theorem dX2_unpack_31 : decode cX2_unpack 31 = .ok (.iconst 1, 1) := by decide +kernel
theorem dX2_unpack_32 : decode cX2_unpack 32 = .ok (.iadd, 1) := by decide +kernel
theorem dX2_unpack_33 : decode cX2_unpack 33 = .ok (.iload_n 3, 1) := by decide +kernel
theorem dX2_unpack_34 : decode cX2_unpack 34 = .ok (.if_icmp .ge 66, 3) := by decide +kernel
theorem dX2_unpack_37 : decode cX2_unpack 37 = .ok (.aload_n 0, 1) := by decide +kernel
theorem dX2_unpack_38 : decode cX2_unpack 38 = .ok (.getfield 18, 3) := by decide +kernel
theorem dX2_unpack_41 : decode cX2_unpack 41 = .ok (.aload_n 0, 1) := by decide +kernel
theorem dX2_unpack_42 : decode cX2_unpack 42 = .ok (.getfield 28, 3) := by decide +kernel
theorem dX2_unpack_45 : decode cX2_unpack 45 = .ok (.iload 4, 2) := by decide +kernel
theorem dX2_unpack_47 : decode cX2_unpack 47 = .ok (.iaload, 1) := by decide +kernel
theorem dX2_unpack_48 : decode cX2_unpack 48 = .ok (.aload_n 0, 1) := by decide +kernel
theorem dX2_unpack_49 : decode cX2_unpack 49 = .ok (.getfield 28, 3) := by decide +kernel
theorem dX2_unpack_52 : decode cX2_unpack 52 = .ok (.iload 4, 2) := by decide +kernel
theorem dX2_unpack_54 : decode cX2_unpack 54 = .ok (.iconst 1, 1) := by decide +kernel
theorem dX2_unpack_55 : decode cX2_unpack 55 = .ok (.iadd, 1) := by decide +kernel
theorem dX2_unpack_56 : decode cX2_unpack 56 = .ok (.iaload, 1) := by decide +kernel
theorem dX2_unpack_57 : decode cX2_unpack 57 = .ok (.invokevirtual 84, 3) := by decide +kernel
theorem dX2_unpack_60 : decode cX2_unpack 60 = .ok (.istore 6, 2) := by decide +kernel
theorem dX2_unpack_62 : decode cX2_unpack 62 = .ok (.iload 6, 2) := by decide +kernel
theorem dX2_unpack_64 : decode cX2_unpack 64 = .ok (.iconst (-1), 1) := by decide +kernel
theorem dX2_unpack_65 : decode cX2_unpack 65 = .ok (.if_icmp .eq 9, 3) := by decide +kernel
theorem dX2_unpack_68 : decode cX2_unpack 68 = .ok (.iload_n 3, 1) := by decide +kernel
theorem dX2_unpack_69 : decode cX2_unpack 69 = .ok (.bipush 12, 2) := by decide +kernel
theorem dX2_unpack_71 : decode cX2_unpack 71 = .ok (.if_icmp .lt 9, 3) := by decide +kernel
theorem dX2_unpack_74 : decode cX2_unpack 74 = .ok (.iinc 4 1, 3) := by decide +kernel
theorem dX2_unpack_77 : decode cX2_unpack 77 = .ok (.goto 17, 3) := by decide +kernel
theorem dX2_unpack_80 : decode cX2_unpack 80 = .ok (.aload_n 0, 1) := by decide +kernel
theorem dX2_unpack_81 : decode cX2_unpack 81 = .ok (.iload 6, 2) := by decide +kernel
theorem dX2_unpack_83 : decode cX2_unpack 83 = .ok (.iload 4, 2) := by decide +kernel
theorem dX2_unpack_85 : decode cX2_unpack 85 = .ok (.iconst 1, 1) := by decide +kernel
theorem dX2_unpack_86 : decode cX2_unpack 86 = .ok (.iadd, 1) := by decide +kernel
theorem dX2_unpack_87 : decode cX2_unpack 87 = .ok (.iload_n 3, 1) := by decide +kernel
theorem dX2_unpack_88 : decode cX2_unpack 88 = .ok (.invokevirtual 107, 3) := by decide +kernel
theorem dX2_unpack_91 : decode cX2_unpack 91 = .ok (.iinc 3 1, 3) := by decide +kernel
theorem dX2_unpack_94 : decode cX2_unpack 94 = .ok (.iinc 5 1, 3) := by decide +kernel
theorem dX2_unpack_97 : decode cX2_unpack 97 = .ok (.goto (-75), 3) := by decide +kernel
theorem dX2_unpack_100 : decode cX2_unpack 100 = .ok (.iload_n 3, 1) := by decide +kernel
theorem dX2_unpack_101 : decode cX2_unpack 101 = .ok (.ireturn, 1) := by decide +kernel
theorem dX2_putIntoRow_0 : decode cX2_putIntoRow 0 = .ok (.iload_n 3, 1) := by decide +kernel
theorem dX2_putIntoRow_1 : decode cX2_putIntoRow 1 = .ok (.istore 4, 2) := by decide +kernel
theorem dX2_putIntoRow_3 : decode cX2_putIntoRow 3 = .ok (.iload 4, 2) := by decide +kernel
theorem dX2_putIntoRow_5 : decode cX2_putIntoRow 5 = .ok (.iload_n 2, 1) := by decide +kernel
theorem dX2_putIntoRow_6 : decode cX2_putIntoRow 6 = .ok (.if_icmp .le 25, 3) := by decide +kernel
theorem dX2_putIntoRow_9 : decode cX2_putIntoRow 9 = .ok (.aload_n 0, 1) := by decide +kernel
theorem dX2_putIntoRow_10 : decode cX2_putIntoRow 10 = .ok (.getfield 28, 3) := by decide +kernel
theorem dX2_putIntoRow_13 : decode cX2_putIntoRow 13 = .ok (.iload 4, 2) := by decide +kernel
theorem dX2_putIntoRow_15 : decode cX2_putIntoRow 15 = .ok (.aload_n 0, 1) := by decide +kernel
theorem dX2_putIntoRow_16 : decode cX2_putIntoRow 16 = .ok (.getfield 28, 3) := by decide +kernel
theorem dX2_putIntoRow_19 : decode cX2_putIntoRow 19 = .ok (.iload 4, 2) := by decide +kernel
theorem dX2_putIntoRow_21 : decode cX2_putIntoRow 21 = .ok (.iconst 1, 1) := by decide +kernel
theorem dX2_putIntoRow_22 : decode cX2_putIntoRow 22 = .ok (.isub, 1) := by decide +kernel
theorem dX2_putIntoRow_23 : decode cX2_putIntoRow 23 = .ok (.iaload, 1) := by decide +kernel
theorem dX2_putIntoRow_24 : decode cX2_putIntoRow 24 = .ok (.iastore, 1) := by decide +kernel
theorem dX2_putIntoRow_25 : decode cX2_putIntoRow 25 = .ok (.iinc 4 (-1), 3) := by decide +kernel
theorem dX2_putIntoRow_28 : decode cX2_putIntoRow 28 = .ok (.goto (-25), 3) := by decide +kernel
theorem dX2_putIntoRow_31 : decode cX2_putIntoRow 31 = .ok (.aload_n 0, 1) := by decide +kernel
theorem dX2_putIntoRow_32 : decode cX2_putIntoRow 32 = .ok (.getfield 28, 3) := by decide +kernel
theorem dX2_putIntoRow_35 : decode cX2_putIntoRow 35 = .ok (.iload_n 2, 1) := by decide +kernel
theorem dX2_putIntoRow_36 : decode cX2_putIntoRow 36 = .ok (.iload_n 1, 1) := by decide +kernel
theorem dX2_putIntoRow_37 : decode cX2_putIntoRow 37 = .ok (.iastore, 1) := by decide +kernel
theorem dX2_putIntoRow_38 : decode cX2_putIntoRow 38 = .ok (.return_, 1) := by decide +kernel
theorem dX2_countArcs_0 : decode cX2_countArcs 0 = .ok (.iconst 0, 1) := by decide +kernel
theorem dX2_countArcs_1 : decode cX2_countArcs 1 = .ok (.istore_n 1, 1) := by decide +kernel
theorem dX2_countArcs_2 : decode cX2_countArcs 2 = .ok (.iconst 0, 1) := by decide +kernel
theorem dX2_countArcs_3 : decode cX2_countArcs 3 = .ok (.istore_n 2, 1) := by decide +kernel
theorem dX2_countArcs_4 : decode cX2_countArcs 4 = .ok (.iload_n 2, 1) := by decide +kernel
theorem dX2_countArcs_5 : decode cX2_countArcs 5 = .ok (.aload_n 0, 1) := by decide +kernel
theorem dX2_countArcs_6 : decode cX2_countArcs 6 = .ok (.getfield 47, 3) := by decide +kernel
theorem dX2_countArcs_9 : decode cX2_countArcs 9 = .ok (.if_icmp .ge 42, 3) := by decide +kernel
theorem dX2_countArcs_12 : decode cX2_countArcs 12 = .ok (.iconst 0, 1) := by decide +kernel
theorem dX2_countArcs_13 : decode cX2_countArcs 13 = .ok (.istore_n 3, 1) := by decide +kernel
theorem dX2_countArcs_14 : decode cX2_countArcs 14 = .ok (.iload_n 3, 1) := by decide +kernel
theorem dX2_countArcs_15 : decode cX2_countArcs 15 = .ok (.aload_n 0, 1) := by decide +kernel
theorem dX2_countArcs_16 : decode cX2_countArcs 16 = .ok (.getfield 47, 3) := by decide +kernel
theorem dX2_countArcs_19 : decode cX2_countArcs 19 = .ok (.if_icmp .ge 26, 3) := by decide +kernel
theorem dX2_countArcs_22 : decode cX2_countArcs 22 = .ok (.iload_n 1, 1) := by decide +kernel
theorem dX2_countArcs_23 : decode cX2_countArcs 23 = .ok (.aload_n 0, 1) := by decide +kernel
theorem dX2_countArcs_24 : decode cX2_countArcs 24 = .ok (.iload_n 2, 1) := by decide +kernel
theorem dX2_countArcs_25 : decode cX2_countArcs 25 = .ok (.iload_n 3, 1) := by decide +kernel
theorem dX2_countArcs_26 : decode cX2_countArcs 26 = .ok (.invokevirtual 99, 3) := by decide +kernel
theorem dX2_countArcs_29 : decode cX2_countArcs 29 = .ok (.ifCond .eq 7, 3) := by decide +kernel
theorem dX2_countArcs_32 : decode cX2_countArcs 32 = .ok (.iconst 1, 1) := by decide +kernel
theorem dX2_countArcs_33 : decode cX2_countArcs 33 = .ok (.goto 4, 3) := by decide +kernel
theorem dX2_countArcs_36 : decode cX2_countArcs 36 = .ok (.iconst 0, 1) := by decide +kernel
theorem dX2_countArcs_37 : decode cX2_countArcs 37 = .ok (.iadd, 1) := by decide +kernel
theorem dX2_countArcs_38 : decode cX2_countArcs 38 = .ok (.istore_n 1, 1) := by decide +kernel
theorem dX2_countArcs_39 : decode cX2_countArcs 39 = .ok (.iinc 3 1, 3) := by decide +kernel
theorem dX2_countArcs_42 : decode cX2_countArcs 42 = .ok (.goto (-28), 3) := by decide +kernel
theorem dX2_countArcs_45 : decode cX2_countArcs 45 = .ok (.iinc 2 1, 3) := by decide +kernel
theorem dX2_countArcs_48 : decode cX2_countArcs 48 = .ok (.goto (-44), 3) := by decide +kernel
theorem dX2_countArcs_51 : decode cX2_countArcs 51 = .ok (.iload_n 1, 1) := by decide +kernel
theorem dX2_countArcs_52 : decode cX2_countArcs 52 = .ok (.ireturn, 1) := by decide +kernel
theorem dX2_countShortcuts_0 : decode cX2_countShortcuts 0 = .ok (.iconst 0, 1) := by decide +kernel
theorem dX2_countShortcuts_1 : decode cX2_countShortcuts 1 = .ok (.istore_n 1, 1) := by decide +kernel
theorem dX2_countShortcuts_2 : decode cX2_countShortcuts 2 = .ok (.iconst 0, 1) := by decide +kernel
theorem dX2_countShortcuts_3 : decode cX2_countShortcuts 3 = .ok (.istore_n 2, 1) := by decide +kernel
theorem dX2_countShortcuts_4 : decode cX2_countShortcuts 4 = .ok (.iload_n 2, 1) := by decide +kernel
theorem dX2_countShortcuts_5 : decode cX2_countShortcuts 5 = .ok (.aload_n 0, 1) := by decide +kernel
theorem dX2_countShortcuts_6 : decode cX2_countShortcuts 6 = .ok (.getfield 47, 3) := by decide +kernel
theorem dX2_countShortcuts_9 : decode cX2_countShortcuts 9 = .ok (.if_icmp .ge 17, 3) := by decide +kernel
theorem dX2_countShortcuts_12 : decode cX2_countShortcuts 12 = .ok (.iload_n 1, 1) := by decide +kernel
theorem dX2_countShortcuts_13 : decode cX2_countShortcuts 13 = .ok (.aload_n 0, 1) := by decide +kernel
theorem dX2_countShortcuts_14 : decode cX2_countShortcuts 14 = .ok (.iload_n 2, 1) := by decide +kernel
theorem dX2_countShortcuts_15 : decode cX2_countShortcuts 15 = .ok (.invokevirtual 110, 3) := by decide +kernel
theorem dX2_countShortcuts_18 : decode cX2_countShortcuts 18 = .ok (.iadd, 1) := by decide +kernel
theorem dX2_countShortcuts_19 : decode cX2_countShortcuts 19 = .ok (.istore_n 1, 1) := by decide +kernel
theorem dX2_countShortcuts_20 : decode cX2_countShortcuts 20 = .ok (.iinc 2 1, 3) := by decide +kernel
theorem dX2_countShortcuts_23 : decode cX2_countShortcuts 23 = .ok (.goto (-19), 3) := by decide +kernel
theorem dX2_countShortcuts_26 : decode cX2_countShortcuts 26 = .ok (.iload_n 1, 1) := by decide +kernel
theorem dX2_countShortcuts_27 : decode cX2_countShortcuts 27 = .ok (.ireturn, 1) := by decide +kernel
theorem dX2_countArcsOver_0 : decode cX2_countArcsOver 0 = .ok (.iconst 0, 1) := by decide +kernel
theorem dX2_countArcsOver_1 : decode cX2_countArcsOver 1 = .ok (.istore_n 2, 1) := by decide +kernel
theorem dX2_countArcsOver_2 : decode cX2_countArcsOver 2 = .ok (.iconst 0, 1) := by decide +kernel
theorem dX2_countArcsOver_3 : decode cX2_countArcsOver 3 = .ok (.istore_n 3, 1) := by decide +kernel
theorem dX2_countArcsOver_4 : decode cX2_countArcsOver 4 = .ok (.iload_n 3, 1) := by decide +kernel
theorem dX2_countArcsOver_5 : decode cX2_countArcsOver 5 = .ok (.aload_n 0, 1) := by decide +kernel
theorem dX2_countArcsOver_6 : decode cX2_countArcsOver 6 = .ok (.getfield 47, 3) := by decide +kernel
theorem dX2_countArcsOver_9 : decode cX2_countArcsOver 9 = .ok (.if_icmp .ge 49, 3) := by decide +kernel
theorem dX2_countArcsOver_12 : decode cX2_countArcsOver 12 = .ok (.iconst 0, 1) := by decide +kernel
theorem dX2_countArcsOver_13 : decode cX2_countArcsOver 13 = .ok (.istore 4, 2) := by decide +kernel
theorem dX2_countArcsOver_15 : decode cX2_countArcsOver 15 = .ok (.iload 4, 2) := by decide +kernel
theorem dX2_countArcsOver_17 : decode cX2_countArcsOver 17 = .ok (.aload_n 0, 1) := by decide +kernel
theorem dX2_countArcsOver_18 : decode cX2_countArcsOver 18 = .ok (.getfield 47, 3) := by decide +kernel
theorem dX2_countArcsOver_21 : decode cX2_countArcsOver 21 = .ok (.if_icmp .ge 31, 3) := by decide +kernel
theorem dX2_countArcsOver_24 : decode cX2_countArcsOver 24 = .ok (.iload_n 2, 1) := by decide +kernel
theorem dX2_countArcsOver_25 : decode cX2_countArcsOver 25 = .ok (.aload_n 0, 1) := by decide +kernel
theorem dX2_countArcsOver_26 : decode cX2_countArcsOver 26 = .ok (.getfield 18, 3) := by decide +kernel
theorem dX2_countArcsOver_29 : decode cX2_countArcsOver 29 = .ok (.iload_n 3, 1) := by decide +kernel
theorem dX2_countArcsOver_30 : decode cX2_countArcsOver 30 = .ok (.iload 4, 2) := by decide +kernel
theorem dX2_countArcsOver_32 : decode cX2_countArcsOver 32 = .ok (.invokevirtual 84, 3) := by decide +kernel
theorem dX2_countArcsOver_35 : decode cX2_countArcsOver 35 = .ok (.iload_n 1, 1) := by decide +kernel
theorem dX2_countArcsOver_36 : decode cX2_countArcsOver 36 = .ok (.if_icmp .ne 7, 3) := by decide +kernel
theorem dX2_countArcsOver_39 : decode cX2_countArcsOver 39 = .ok (.iconst 1, 1) := by decide +kernel
theorem dX2_countArcsOver_40 : decode cX2_countArcsOver 40 = .ok (.goto 4, 3) := by decide +kernel
theorem dX2_countArcsOver_43 : decode cX2_countArcsOver 43 = .ok (.iconst 0, 1) := by decide +kernel
theorem dX2_countArcsOver_44 : decode cX2_countArcsOver 44 = .ok (.iadd, 1) := by decide +kernel
theorem dX2_countArcsOver_45 : decode cX2_countArcsOver 45 = .ok (.istore_n 2, 1) := by decide +kernel
theorem dX2_countArcsOver_46 : decode cX2_countArcsOver 46 = .ok (.iinc 4 1, 3) := by decide +kernel
theorem dX2_countArcsOver_49 : decode cX2_countArcsOver 49 = .ok (.goto (-34), 3) := by decide +kernel
theorem dX2_countArcsOver_52 : decode cX2_countArcsOver 52 = .ok (.iinc 3 1, 3) := by decide +kernel
theorem dX2_countArcsOver_55 : decode cX2_countArcsOver 55 = .ok (.goto (-51), 3) := by decide +kernel
theorem dX2_countArcsOver_58 : decode cX2_countArcsOver 58 = .ok (.iload_n 2, 1) := by decide +kernel
theorem dX2_countArcsOver_59 : decode cX2_countArcsOver 59 = .ok (.ireturn, 1) := by decide +kernel
theorem dX3_init_0 : decode cX3_init 0 = .ok (.aload_n 0, 1) := by decide +kernel
theorem dX3_init_1 : decode cX3_init 1 = .ok (.invokespecial 3, 3) := by decide +kernel
theorem dX3_init_4 : decode cX3_init 4 = .ok (.aload_n 0, 1) := by decide +kernel
theorem dX3_init_5 : decode cX3_init 5 = .ok (.bipush 12, 2) := by decide +kernel
theorem dX3_init_7 : decode cX3_init 7 = .ok (.newarray .int, 2) := by decide +kernel
theorem dX3_init_9 : decode cX3_init 9 = .ok (.putfield 9, 3) := by decide +kernel
theorem dX3_init_12 : decode cX3_init 12 = .ok (.aload_n 0, 1) := by decide +kernel
theorem dX3_init_13 : decode cX3_init 13 = .ok (.bipush 12, 2) := by decide +kernel
theorem dX3_init_15 : decode cX3_init 15 = .ok (.newarray .int, 2) := by decide +kernel
theorem dX3_init_17 : decode cX3_init 17 = .ok (.putfield 15, 3) := by decide +kernel
theorem dX3_init_20 : decode cX3_init 20 = .ok (.aload_n 0, 1) := by decide +kernel
theorem dX3_init_21 : decode cX3_init 21 = .ok (.bipush 12, 2) := by decide +kernel
theorem dX3_init_23 : decode cX3_init 23 = .ok (.newarray .int, 2) := by decide +kernel
theorem dX3_init_25 : decode cX3_init 25 = .ok (.putfield 18, 3) := by decide +kernel
theorem dX3_init_28 : decode cX3_init 28 = .ok (.aload_n 0, 1) := by decide +kernel
theorem dX3_init_29 : decode cX3_init 29 = .ok (.new 21, 3) := by decide +kernel
theorem dX3_init_32 : decode cX3_init 32 = .ok (.dup, 1) := by decide +kernel
theorem dX3_init_33 : decode cX3_init 33 = .ok (.invokespecial 23, 3) := by decide +kernel
theorem dX3_init_36 : decode cX3_init 36 = .ok (.putfield 24, 3) := by decide +kernel
theorem dX3_init_39 : decode cX3_init 39 = .ok (.return_, 1) := by decide +kernel
theorem dX3_take_0 : decode cX3_take 0 = .ok (.aload_n 0, 1) := by decide +kernel
theorem dX3_take_1 : decode cX3_take 1 = .ok (.aload_n 1, 1) := by decide +kernel
theorem dX3_take_2 : decode cX3_take 2 = .ok (.invokevirtual 28, 3) := by decide +kernel
theorem dX3_take_5 : decode cX3_take 5 = .ok (.putfield 34, 3) := by decide +kernel
theorem dX3_take_8 : decode cX3_take 8 = .ok (.aload_n 1, 1) := by decide +kernel
theorem dX3_take_9 : decode cX3_take 9 = .ok (.getfield 38, 3) := by decide +kernel
theorem dX3_take_12 : decode cX3_take 12 = .ok (.iconst 0, 1) := by decide +kernel
theorem dX3_take_13 : decode cX3_take 13 = .ok (.aload_n 0, 1) := by decide +kernel
theorem dX3_take_14 : decode cX3_take 14 = .ok (.getfield 9, 3) := by decide +kernel
theorem dX3_take_17 : decode cX3_take 17 = .ok (.iconst 0, 1) := by decide +kernel
theorem dX3_take_18 : decode cX3_take 18 = .ok (.bipush 12, 2) := by decide +kernel
theorem dX3_take_20 : decode cX3_take 20 = .ok (.invokestatic 39, 3) := by decide +kernel
theorem dX3_take_23 : decode cX3_take 23 = .ok (.aload_n 1, 1) := by decide +kernel
theorem dX3_take_24 : decode cX3_take 24 = .ok (.getfield 45, 3) := by decide +kernel
theorem dX3_take_27 : decode cX3_take 27 = .ok (.iconst 0, 1) := by decide +kernel
theorem dX3_take_28 : decode cX3_take 28 = .ok (.aload_n 0, 1) := by decide +kernel
theorem dX3_take_29 : decode cX3_take 29 = .ok (.getfield 15, 3) := by decide +kernel
theorem dX3_take_32 : decode cX3_take 32 = .ok (.iconst 0, 1) := by decide +kernel
theorem dX3_take_33 : decode cX3_take 33 = .ok (.bipush 12, 2) := by decide +kernel
theorem dX3_take_35 : decode cX3_take 35 = .ok (.invokestatic 39, 3) := by decide +kernel
theorem dX3_take_38 : decode cX3_take 38 = .ok (.aload_n 1, 1) := by decide +kernel
theorem dX3_take_39 : decode cX3_take 39 = .ok (.getfield 46, 3) := by decide +kernel
theorem dX3_take_42 : decode cX3_take 42 = .ok (.iconst 0, 1) := by decide +kernel
theorem dX3_take_43 : decode cX3_take 43 = .ok (.aload_n 0, 1) := by decide +kernel
theorem dX3_take_44 : decode cX3_take 44 = .ok (.getfield 18, 3) := by decide +kernel
theorem dX3_take_47 : decode cX3_take 47 = .ok (.iconst 0, 1) := by decide +kernel
theorem dX3_take_48 : decode cX3_take 48 = .ok (.bipush 12, 2) := by decide +kernel
theorem dX3_take_50 : decode cX3_take 50 = .ok (.invokestatic 39, 3) := by decide +kernel
theorem dX3_take_53 : decode cX3_take 53 = .ok (.iconst 0, 1) := by decide +kernel
theorem dX3_take_54 : decode cX3_take 54 = .ok (.istore_n 2, 1) := by decide +kernel
theorem dX3_take_55 : decode cX3_take 55 = .ok (.iload_n 2, 1) := by decide +kernel
theorem dX3_take_56 : decode cX3_take 56 = .ok (.aload_n 0, 1) := by decide +kernel
theorem dX3_take_57 : decode cX3_take 57 = .ok (.getfield 34, 3) := by decide +kernel
theorem dX3_take_60 : decode cX3_take 60 = .ok (.if_icmp .ge 40, 3) := by decide +kernel
theorem dX3_take_63 : decode cX3_take 63 = .ok (.iconst 0, 1) := by decide +kernel
theorem dX3_take_64 : decode cX3_take 64 = .ok (.istore_n 3, 1) := by decide +kernel
theorem dX3_take_65 : decode cX3_take 65 = .ok (.iload_n 3, 1) := by decide +kernel
theorem dX3_take_66 : decode cX3_take 66 = .ok (.aload_n 0, 1) := by decide +kernel
theorem dX3_take_67 : decode cX3_take 67 = .ok (.getfield 34, 3) := by decide +kernel
theorem dX3_take_70 : decode cX3_take 70 = .ok (.if_icmp .ge 24, 3) := by decide +kernel
theorem dX3_take_73 : decode cX3_take 73 = .ok (.aload_n 0, 1) := by decide +kernel
theorem dX3_take_74 : decode cX3_take 74 = .ok (.getfield 24, 3) := by decide +kernel
theorem dX3_take_77 : decode cX3_take 77 = .ok (.iload_n 2, 1) := by decide +kernel
theorem dX3_take_78 : decode cX3_take 78 = .ok (.iload_n 3, 1) := by decide +kernel
theorem dX3_take_79 : decode cX3_take 79 = .ok (.aload_n 0, 1) := by decide +kernel
theorem dX3_take_80 : decode cX3_take 80 = .ok (.iload_n 2, 1) := by decide +kernel
theorem dX3_take_81 : decode cX3_take 81 = .ok (.iload_n 3, 1) := by decide +kernel
theorem dX3_take_82 : decode cX3_take 82 = .ok (.invokevirtual 47, 3) := by decide +kernel
theorem dX3_take_85 : decode cX3_take 85 = .ok (.invokevirtual 51, 3) := by decide +kernel
theorem dX3_take_88 : decode cX3_take 88 = .ok (.iinc 3 1, 3) := by decide +kernel
theorem dX3_take_91 : decode cX3_take 91 = .ok (.goto (-26), 3) := by decide +kernel
theorem dX3_take_94 : decode cX3_take 94 = .ok (.iinc 2 1, 3) := by decide +kernel
theorem dX3_take_97 : decode cX3_take 97 = .ok (.goto (-42), 3) := by decide +kernel
theorem dX3_take_100 : decode cX3_take 100 = .ok (.return_, 1) := by decide +kernel
theorem dX3_firstCost_0 : decode cX3_firstCost 0 = .ok (.aload_n 0, 1) := by decide +kernel
theorem dX3_firstCost_1 : decode cX3_firstCost 1 = .ok (.getfield 15, 3) := by decide +kernel
theorem dX3_firstCost_4 : decode cX3_firstCost 4 = .ok (.iload_n 1, 1) := by decide +kernel
theorem dX3_firstCost_5 : decode cX3_firstCost 5 = .ok (.iaload, 1) := by decide +kernel
theorem dX3_firstCost_6 : decode cX3_firstCost 6 = .ok (.aload_n 0, 1) := by decide +kernel
theorem dX3_firstCost_7 : decode cX3_firstCost 7 = .ok (.getfield 9, 3) := by decide +kernel
theorem dX3_firstCost_10 : decode cX3_firstCost 10 = .ok (.iload_n 2, 1) := by decide +kernel
theorem dX3_firstCost_11 : decode cX3_firstCost 11 = .ok (.iaload, 1) := by decide +kernel
theorem dX3_firstCost_12 : decode cX3_firstCost 12 = .ok (.if_icmp .eq 6, 3) := by decide +kernel
theorem dX3_firstCost_15 : decode cX3_firstCost 15 = .ok (.bipush (-6), 2) := by decide +kernel
theorem dX3_firstCost_17 : decode cX3_firstCost 17 = .ok (.ireturn, 1) := by decide +kernel
theorem dX3_firstCost_18 : decode cX3_firstCost 18 = .ok (.aload_n 0, 1) := by decide +kernel
theorem dX3_firstCost_19 : decode cX3_firstCost 19 = .ok (.getfield 15, 3) := by decide +kernel
theorem dX3_firstCost_22 : decode cX3_firstCost 22 = .ok (.iload_n 2, 1) := by decide +kernel
theorem dX3_firstCost_23 : decode cX3_firstCost 23 = .ok (.iaload, 1) := by decide +kernel
theorem dX3_firstCost_24 : decode cX3_firstCost 24 = .ok (.aload_n 0, 1) := by decide +kernel
theorem dX3_firstCost_25 : decode cX3_firstCost 25 = .ok (.getfield 9, 3) := by decide +kernel
theorem dX3_firstCost_28 : decode cX3_firstCost 28 = .ok (.iload_n 1, 1) := by decide +kernel
theorem dX3_firstCost_29 : decode cX3_firstCost 29 = .ok (.iaload, 1) := by decide +kernel
theorem dX3_firstCost_30 : decode cX3_firstCost 30 = .ok (.if_icmp .ne 8, 3) := by decide +kernel
theorem dX3_firstCost_33 : decode cX3_firstCost 33 = .ok (.bipush (-5), 2) := by decide +kernel
theorem dX3_firstCost_35 : decode cX3_firstCost 35 = .ok (.goto 4, 3) := by decide +kernel
theorem dX3_firstCost_38 : decode cX3_firstCost 38 = .ok (.iconst 0, 1) := by decide +kernel
theorem dX3_firstCost_39 : decode cX3_firstCost 39 = .ok (.ireturn, 1) := by decide +kernel
theorem dX3_has_0 : decode cX3_has 0 = .ok (.iload_n 1, 1) := by decide +kernel
theorem dX3_has_1 : decode cX3_has 1 = .ok (.ifCond .lt 15, 3) := by decide +kernel
theorem dX3_has_4 : decode cX3_has 4 = .ok (.iload_n 1, 1) := by decide +kernel
theorem dX3_has_5 : decode cX3_has 5 = .ok (.aload_n 0, 1) := by decide +kernel
theorem dX3_has_6 : decode cX3_has 6 = .ok (.getfield 34, 3) := by decide +kernel
theorem dX3_has_9 : decode cX3_has 9 = .ok (.if_icmp .ge 7, 3) := by decide +kernel
theorem dX3_has_12 : decode cX3_has 12 = .ok (.iconst 1, 1) := by decide +kernel
theorem dX3_has_13 : decode cX3_has 13 = .ok (.goto 4, 3) := by decide +kernel
theorem dX3_has_16 : decode cX3_has 16 = .ok (.iconst 0, 1) := by decide +kernel
theorem dX3_has_17 : decode cX3_has 17 = .ok (.ireturn, 1) := by decide +kernel
theorem dX3_hasBoth_0 : decode cX3_hasBoth 0 = .ok (.aload_n 0, 1) := by decide +kernel
theorem dX3_hasBoth_1 : decode cX3_hasBoth 1 = .ok (.iload_n 1, 1) := by decide +kernel
theorem dX3_hasBoth_2 : decode cX3_hasBoth 2 = .ok (.invokevirtual 55, 3) := by decide +kernel
theorem dX3_hasBoth_5 : decode cX3_hasBoth 5 = .ok (.ifCond .eq 15, 3) := by decide +kernel
theorem dX3_hasBoth_8 : decode cX3_hasBoth 8 = .ok (.aload_n 0, 1) := by decide +kernel
theorem dX3_hasBoth_9 : decode cX3_hasBoth 9 = .ok (.iload_n 2, 1) := by decide +kernel
theorem dX3_hasBoth_10 : decode cX3_hasBoth 10 = .ok (.invokevirtual 55, 3) := by decide +kernel
theorem dX3_hasBoth_13 : decode cX3_hasBoth 13 = .ok (.ifCond .eq 7, 3) := by decide +kernel
theorem dX3_hasBoth_16 : decode cX3_hasBoth 16 = .ok (.iconst 1, 1) := by decide +kernel
theorem dX3_hasBoth_17 : decode cX3_hasBoth 17 = .ok (.goto 4, 3) := by decide +kernel
theorem dX3_hasBoth_20 : decode cX3_hasBoth 20 = .ok (.iconst 0, 1) := by decide +kernel
theorem dX3_hasBoth_21 : decode cX3_hasBoth 21 = .ok (.ireturn, 1) := by decide +kernel
theorem dX3_hasTurn_0 : decode cX3_hasTurn 0 = .ok (.aload_n 0, 1) := by decide +kernel
theorem dX3_hasTurn_1 : decode cX3_hasTurn 1 = .ok (.getfield 24, 3) := by decide +kernel
theorem dX3_hasTurn_4 : decode cX3_hasTurn 4 = .ok (.iload_n 1, 1) := by decide +kernel
theorem dX3_hasTurn_5 : decode cX3_hasTurn 5 = .ok (.iload_n 2, 1) := by decide +kernel
theorem dX3_hasTurn_6 : decode cX3_hasTurn 6 = .ok (.invokevirtual 59, 3) := by decide +kernel
theorem dX3_hasTurn_9 : decode cX3_hasTurn 9 = .ok (.bipush (-6), 2) := by decide +kernel
theorem dX3_hasTurn_11 : decode cX3_hasTurn 11 = .ok (.if_icmp .eq 7, 3) := by decide +kernel
theorem dX3_hasTurn_14 : decode cX3_hasTurn 14 = .ok (.iconst 1, 1) := by decide +kernel
theorem dX3_hasTurn_15 : decode cX3_hasTurn 15 = .ok (.goto 4, 3) := by decide +kernel
theorem dX3_hasTurn_18 : decode cX3_hasTurn 18 = .ok (.iconst 0, 1) := by decide +kernel
theorem dX3_hasTurn_19 : decode cX3_hasTurn 19 = .ok (.ireturn, 1) := by decide +kernel
theorem dX3_hasStep_0 : decode cX3_hasStep 0 = .ok (.aload_n 0, 1) := by decide +kernel
theorem dX3_hasStep_1 : decode cX3_hasStep 1 = .ok (.getfield 24, 3) := by decide +kernel
theorem dX3_hasStep_4 : decode cX3_hasStep 4 = .ok (.iload_n 1, 1) := by decide +kernel
theorem dX3_hasStep_5 : decode cX3_hasStep 5 = .ok (.iload_n 2, 1) := by decide +kernel
theorem dX3_hasStep_6 : decode cX3_hasStep 6 = .ok (.invokevirtual 59, 3) := by decide +kernel
theorem dX3_hasStep_9 : decode cX3_hasStep 9 = .ok (.ifCond .lt 7, 3) := by decide +kernel
theorem dX3_hasStep_12 : decode cX3_hasStep 12 = .ok (.iconst 1, 1) := by decide +kernel
theorem dX3_hasStep_13 : decode cX3_hasStep 13 = .ok (.goto 4, 3) := by decide +kernel
theorem dX3_hasStep_16 : decode cX3_hasStep 16 = .ok (.iconst 0, 1) := by decide +kernel
theorem dX3_hasStep_17 : decode cX3_hasStep 17 = .ok (.ireturn, 1) := by decide +kernel
theorem dX3_stepWorth_0 : decode cX3_stepWorth 0 = .ok (.aload_n 0, 1) := by decide +kernel
theorem dX3_stepWorth_1 : decode cX3_stepWorth 1 = .ok (.getfield 24, 3) := by decide +kernel
theorem dX3_stepWorth_4 : decode cX3_stepWorth 4 = .ok (.iload_n 1, 1) := by decide +kernel
theorem dX3_stepWorth_5 : decode cX3_stepWorth 5 = .ok (.iload_n 2, 1) := by decide +kernel
theorem dX3_stepWorth_6 : decode cX3_stepWorth 6 = .ok (.invokevirtual 59, 3) := by decide +kernel
theorem dX3_stepWorth_9 : decode cX3_stepWorth 9 = .ok (.istore_n 3, 1) := by decide +kernel
theorem dX3_stepWorth_10 : decode cX3_stepWorth 10 = .ok (.iload_n 3, 1) := by decide +kernel
theorem dX3_stepWorth_11 : decode cX3_stepWorth 11 = .ok (.ifCond .lt 14, 3) := by decide +kernel
theorem dX3_stepWorth_14 : decode cX3_stepWorth 14 = .ok (.iload_n 3, 1) := by decide +kernel
theorem dX3_stepWorth_15 : decode cX3_stepWorth 15 = .ok (.aload_n 0, 1) := by decide +kernel
theorem dX3_stepWorth_16 : decode cX3_stepWorth 16 = .ok (.getfield 18, 3) := by decide +kernel
theorem dX3_stepWorth_19 : decode cX3_stepWorth 19 = .ok (.iload_n 2, 1) := by decide +kernel
theorem dX3_stepWorth_20 : decode cX3_stepWorth 20 = .ok (.iaload, 1) := by decide +kernel
theorem dX3_stepWorth_21 : decode cX3_stepWorth 21 = .ok (.iadd, 1) := by decide +kernel
theorem dX3_stepWorth_22 : decode cX3_stepWorth 22 = .ok (.goto 5, 3) := by decide +kernel
theorem dX3_stepWorth_25 : decode cX3_stepWorth 25 = .ok (.ldc 62, 2) := by decide +kernel
theorem dX3_stepWorth_27 : decode cX3_stepWorth 27 = .ok (.ireturn, 1) := by decide +kernel
theorem dX3_stepKey_0 : decode cX3_stepKey 0 = .ok (.aload_n 0, 1) := by decide +kernel
theorem dX3_stepKey_1 : decode cX3_stepKey 1 = .ok (.iload_n 1, 1) := by decide +kernel
theorem dX3_stepKey_2 : decode cX3_stepKey 2 = .ok (.iload_n 2, 1) := by decide +kernel
theorem dX3_stepKey_3 : decode cX3_stepKey 3 = .ok (.invokevirtual 63, 3) := by decide +kernel
theorem dX3_stepKey_6 : decode cX3_stepKey 6 = .ok (.ifCond .eq 17, 3) := by decide +kernel
theorem dX3_stepKey_9 : decode cX3_stepKey 9 = .ok (.aload_n 0, 1) := by decide +kernel
theorem dX3_stepKey_10 : decode cX3_stepKey 10 = .ok (.iload_n 1, 1) := by decide +kernel
theorem dX3_stepKey_11 : decode cX3_stepKey 11 = .ok (.iload_n 2, 1) := by decide +kernel
theorem dX3_stepKey_12 : decode cX3_stepKey 12 = .ok (.invokevirtual 67, 3) := by decide +kernel
theorem dX3_stepKey_15 : decode cX3_stepKey 15 = .ok (.bipush 64, 2) := by decide +kernel
theorem dX3_stepKey_17 : decode cX3_stepKey 17 = .ok (.imul, 1) := by decide +kernel
theorem dX3_stepKey_18 : decode cX3_stepKey 18 = .ok (.iconst 1, 1) := by decide +kernel
theorem dX3_stepKey_19 : decode cX3_stepKey 19 = .ok (.iadd, 1) := by decide +kernel
theorem dX3_stepKey_20 : decode cX3_stepKey 20 = .ok (.goto 5, 3) := by decide +kernel
theorem dX3_stepKey_23 : decode cX3_stepKey 23 = .ok (.ldc 62, 2) := by decide +kernel
theorem dX3_stepKey_25 : decode cX3_stepKey 25 = .ok (.ireturn, 1) := by decide +kernel
theorem dX3_fillLeastKeys_0 : decode cX3_fillLeastKeys 0 = .ok (.iconst 0, 1) := by decide +kernel
theorem dX3_fillLeastKeys_1 : decode cX3_fillLeastKeys 1 = .ok (.istore_n 3, 1) := by decide +kernel
theorem dX3_fillLeastKeys_2 : decode cX3_fillLeastKeys 2 = .ok (.iload_n 3, 1) := by decide +kernel
theorem dX3_fillLeastKeys_3 : decode cX3_fillLeastKeys 3 = .ok (.aload_n 0, 1) := by decide +kernel
theorem dX3_fillLeastKeys_4 : decode cX3_fillLeastKeys 4 = .ok (.getfield 34, 3) := by decide +kernel
theorem dX3_fillLeastKeys_7 : decode cX3_fillLeastKeys 7 = .ok (.if_icmp .ge 76, 3) := by decide +kernel
theorem dX3_fillLeastKeys_10 : decode cX3_fillLeastKeys 10 = .ok (.iconst 0, 1) := by decide +kernel
theorem dX3_fillLeastKeys_11 : decode cX3_fillLeastKeys 11 = .ok (.istore 4, 2) := by decide +kernel
theorem dX3_fillLeastKeys_13 : decode cX3_fillLeastKeys 13 = .ok (.iload 4, 2) := by decide +kernel
theorem dX3_fillLeastKeys_15 : decode cX3_fillLeastKeys 15 = .ok (.aload_n 0, 1) := by decide +kernel
theorem dX3_fillLeastKeys_16 : decode cX3_fillLeastKeys 16 = .ok (.getfield 34, 3) := by decide +kernel
theorem dX3_fillLeastKeys_19 : decode cX3_fillLeastKeys 19 = .ok (.if_icmp .ge 51, 3) := by decide +kernel
theorem dX3_fillLeastKeys_22 : decode cX3_fillLeastKeys 22 = .ok (.iload_n 3, 1) := by decide +kernel
theorem dX3_fillLeastKeys_23 : decode cX3_fillLeastKeys 23 = .ok (.iload_n 2, 1) := by decide +kernel
theorem dX3_fillLeastKeys_24 : decode cX3_fillLeastKeys 24 = .ok (.if_icmp .eq 13, 3) := by decide +kernel
theorem dX3_fillLeastKeys_27 : decode cX3_fillLeastKeys 27 = .ok (.iload 4, 2) := by decide +kernel
theorem dX3_fillLeastKeys_29 : decode cX3_fillLeastKeys 29 = .ok (.iload_n 2, 1) := by decide +kernel
theorem dX3_fillLeastKeys_30 : decode cX3_fillLeastKeys 30 = .ok (.if_icmp .eq 7, 3) := by decide +kernel
theorem dX3_fillLeastKeys_33 : decode cX3_fillLeastKeys 33 = .ok (.iconst 1, 1) := by decide +kernel
theorem dX3_fillLeastKeys_34 : decode cX3_fillLeastKeys 34 = .ok (.goto 4, 3) := by decide +kernel
theorem dX3_fillLeastKeys_37 : decode cX3_fillLeastKeys 37 = .ok (.iconst 0, 1) := by decide +kernel
theorem dX3_fillLeastKeys_38 : decode cX3_fillLeastKeys 38 = .ok (.istore 5, 2) := by decide +kernel
theorem dX3_fillLeastKeys_40 : decode cX3_fillLeastKeys 40 = .ok (.aload_n 1, 1) := by decide +kernel
theorem dX3_fillLeastKeys_41 : decode cX3_fillLeastKeys 41 = .ok (.iload_n 3, 1) := by decide +kernel
theorem dX3_fillLeastKeys_42 : decode cX3_fillLeastKeys 42 = .ok (.iload 4, 2) := by decide +kernel
theorem dX3_fillLeastKeys_44 : decode cX3_fillLeastKeys 44 = .ok (.iload 5, 2) := by decide +kernel
theorem dX3_fillLeastKeys_46 : decode cX3_fillLeastKeys 46 = .ok (.ifCond .eq 13, 3) := by decide +kernel
theorem dX3_fillLeastKeys_49 : decode cX3_fillLeastKeys 49 = .ok (.aload_n 0, 1) := by decide +kernel
theorem dX3_fillLeastKeys_50 : decode cX3_fillLeastKeys 50 = .ok (.iload_n 3, 1) := by decide +kernel
theorem dX3_fillLeastKeys_51 : decode cX3_fillLeastKeys 51 = .ok (.iload 4, 2) := by decide +kernel
theorem dX3_fillLeastKeys_53 : decode cX3_fillLeastKeys 53 = .ok (.invokevirtual 70, 3) := by decide +kernel
theorem dX3_fillLeastKeys_56 : decode cX3_fillLeastKeys 56 = .ok (.goto 5, 3) := by decide +kernel
theorem dX3_fillLeastKeys_59 : decode cX3_fillLeastKeys 59 = .ok (.ldc 62, 2) := by decide +kernel
theorem dX3_fillLeastKeys_61 : decode cX3_fillLeastKeys 61 = .ok (.invokevirtual 51, 3) := by decide +kernel
theorem dX3_fillLeastKeys_64 : decode cX3_fillLeastKeys 64 = .ok (.iinc 4 1, 3) := by decide +kernel
theorem dX3_fillLeastKeys_67 : decode cX3_fillLeastKeys 67 = .ok (.goto (-54), 3) := by decide +kernel
theorem dX3_fillLeastKeys_70 : decode cX3_fillLeastKeys 70 = .ok (.aload_n 1, 1) := by decide +kernel
theorem dX3_fillLeastKeys_71 : decode cX3_fillLeastKeys 71 = .ok (.iload_n 3, 1) := by decide +kernel
theorem dX3_fillLeastKeys_72 : decode cX3_fillLeastKeys 72 = .ok (.iload_n 3, 1) := by decide +kernel
theorem dX3_fillLeastKeys_73 : decode cX3_fillLeastKeys 73 = .ok (.iconst 0, 1) := by decide +kernel
theorem dX3_fillLeastKeys_74 : decode cX3_fillLeastKeys 74 = .ok (.invokevirtual 51, 3) := by decide +kernel
theorem dX3_fillLeastKeys_77 : decode cX3_fillLeastKeys 77 = .ok (.iinc 3 1, 3) := by decide +kernel
theorem dX3_fillLeastKeys_80 : decode cX3_fillLeastKeys 80 = .ok (.goto (-78), 3) := by decide +kernel
theorem dX3_fillLeastKeys_83 : decode cX3_fillLeastKeys 83 = .ok (.aload_n 1, 1) := by decide +kernel
theorem dX3_fillLeastKeys_84 : decode cX3_fillLeastKeys 84 = .ok (.aload_n 0, 1) := by decide +kernel
theorem dX3_fillLeastKeys_85 : decode cX3_fillLeastKeys 85 = .ok (.getfield 34, 3) := by decide +kernel
theorem dX3_fillLeastKeys_88 : decode cX3_fillLeastKeys 88 = .ok (.invokevirtual 73, 3) := by decide +kernel
theorem dX3_fillLeastKeys_91 : decode cX3_fillLeastKeys 91 = .ok (.return_, 1) := by decide +kernel
theorem dX3_countTurns_0 : decode cX3_countTurns 0 = .ok (.iconst 0, 1) := by decide +kernel
theorem dX3_countTurns_1 : decode cX3_countTurns 1 = .ok (.istore_n 1, 1) := by decide +kernel
theorem dX3_countTurns_2 : decode cX3_countTurns 2 = .ok (.iconst 0, 1) := by decide +kernel
theorem dX3_countTurns_3 : decode cX3_countTurns 3 = .ok (.istore_n 2, 1) := by decide +kernel
theorem dX3_countTurns_4 : decode cX3_countTurns 4 = .ok (.iload_n 2, 1) := by decide +kernel
theorem dX3_countTurns_5 : decode cX3_countTurns 5 = .ok (.aload_n 0, 1) := by decide +kernel
theorem dX3_countTurns_6 : decode cX3_countTurns 6 = .ok (.getfield 34, 3) := by decide +kernel
theorem dX3_countTurns_9 : decode cX3_countTurns 9 = .ok (.if_icmp .ge 42, 3) := by decide +kernel
theorem dX3_countTurns_12 : decode cX3_countTurns 12 = .ok (.iconst 0, 1) := by decide +kernel
theorem dX3_countTurns_13 : decode cX3_countTurns 13 = .ok (.istore_n 3, 1) := by decide +kernel
theorem dX3_countTurns_14 : decode cX3_countTurns 14 = .ok (.iload_n 3, 1) := by decide +kernel
theorem dX3_countTurns_15 : decode cX3_countTurns 15 = .ok (.aload_n 0, 1) := by decide +kernel
theorem dX3_countTurns_16 : decode cX3_countTurns 16 = .ok (.getfield 34, 3) := by decide +kernel
theorem dX3_countTurns_19 : decode cX3_countTurns 19 = .ok (.if_icmp .ge 26, 3) := by decide +kernel
theorem dX3_countTurns_22 : decode cX3_countTurns 22 = .ok (.iload_n 1, 1) := by decide +kernel
theorem dX3_countTurns_23 : decode cX3_countTurns 23 = .ok (.aload_n 0, 1) := by decide +kernel
theorem dX3_countTurns_24 : decode cX3_countTurns 24 = .ok (.iload_n 2, 1) := by decide +kernel
theorem dX3_countTurns_25 : decode cX3_countTurns 25 = .ok (.iload_n 3, 1) := by decide +kernel
theorem dX3_countTurns_26 : decode cX3_countTurns 26 = .ok (.invokevirtual 77, 3) := by decide +kernel
theorem dX3_countTurns_29 : decode cX3_countTurns 29 = .ok (.ifCond .eq 7, 3) := by decide +kernel
theorem dX3_countTurns_32 : decode cX3_countTurns 32 = .ok (.iconst 1, 1) := by decide +kernel
theorem dX3_countTurns_33 : decode cX3_countTurns 33 = .ok (.goto 4, 3) := by decide +kernel
theorem dX3_countTurns_36 : decode cX3_countTurns 36 = .ok (.iconst 0, 1) := by decide +kernel
theorem dX3_countTurns_37 : decode cX3_countTurns 37 = .ok (.iadd, 1) := by decide +kernel
theorem dX3_countTurns_38 : decode cX3_countTurns 38 = .ok (.istore_n 1, 1) := by decide +kernel
theorem dX3_countTurns_39 : decode cX3_countTurns 39 = .ok (.iinc 3 1, 3) := by decide +kernel
theorem dX3_countTurns_42 : decode cX3_countTurns 42 = .ok (.goto (-28), 3) := by decide +kernel
theorem dX3_countTurns_45 : decode cX3_countTurns 45 = .ok (.iinc 2 1, 3) := by decide +kernel
theorem dX3_countTurns_48 : decode cX3_countTurns 48 = .ok (.goto (-44), 3) := by decide +kernel
theorem dX3_countTurns_51 : decode cX3_countTurns 51 = .ok (.iload_n 1, 1) := by decide +kernel
theorem dX3_countTurns_52 : decode cX3_countTurns 52 = .ok (.ireturn, 1) := by decide +kernel
theorem dX3_countBarred_0 : decode cX3_countBarred 0 = .ok (.iconst 0, 1) := by decide +kernel
theorem dX3_countBarred_1 : decode cX3_countBarred 1 = .ok (.istore_n 1, 1) := by decide +kernel
theorem dX3_countBarred_2 : decode cX3_countBarred 2 = .ok (.iconst 0, 1) := by decide +kernel
theorem dX3_countBarred_3 : decode cX3_countBarred 3 = .ok (.istore_n 2, 1) := by decide +kernel
theorem dX3_countBarred_4 : decode cX3_countBarred 4 = .ok (.iload_n 2, 1) := by decide +kernel
theorem dX3_countBarred_5 : decode cX3_countBarred 5 = .ok (.aload_n 0, 1) := by decide +kernel
theorem dX3_countBarred_6 : decode cX3_countBarred 6 = .ok (.getfield 34, 3) := by decide +kernel
theorem dX3_countBarred_9 : decode cX3_countBarred 9 = .ok (.if_icmp .ge 47, 3) := by decide +kernel
theorem dX3_countBarred_12 : decode cX3_countBarred 12 = .ok (.iconst 0, 1) := by decide +kernel
theorem dX3_countBarred_13 : decode cX3_countBarred 13 = .ok (.istore_n 3, 1) := by decide +kernel
theorem dX3_countBarred_14 : decode cX3_countBarred 14 = .ok (.iload_n 3, 1) := by decide +kernel
theorem dX3_countBarred_15 : decode cX3_countBarred 15 = .ok (.aload_n 0, 1) := by decide +kernel
theorem dX3_countBarred_16 : decode cX3_countBarred 16 = .ok (.getfield 34, 3) := by decide +kernel
theorem dX3_countBarred_19 : decode cX3_countBarred 19 = .ok (.if_icmp .ge 31, 3) := by decide +kernel
theorem dX3_countBarred_22 : decode cX3_countBarred 22 = .ok (.iload_n 1, 1) := by decide +kernel
theorem dX3_countBarred_23 : decode cX3_countBarred 23 = .ok (.aload_n 0, 1) := by decide +kernel
theorem dX3_countBarred_24 : decode cX3_countBarred 24 = .ok (.getfield 24, 3) := by decide +kernel
theorem dX3_countBarred_27 : decode cX3_countBarred 27 = .ok (.iload_n 2, 1) := by decide +kernel
theorem dX3_countBarred_28 : decode cX3_countBarred 28 = .ok (.iload_n 3, 1) := by decide +kernel
theorem dX3_countBarred_29 : decode cX3_countBarred 29 = .ok (.invokevirtual 59, 3) := by decide +kernel
theorem dX3_countBarred_32 : decode cX3_countBarred 32 = .ok (.bipush (-5), 2) := by decide +kernel
theorem dX3_countBarred_34 : decode cX3_countBarred 34 = .ok (.if_icmp .ne 7, 3) := by decide +kernel
theorem dX3_countBarred_37 : decode cX3_countBarred 37 = .ok (.iconst 1, 1) := by decide +kernel
theorem dX3_countBarred_38 : decode cX3_countBarred 38 = .ok (.goto 4, 3) := by decide +kernel
theorem dX3_countBarred_41 : decode cX3_countBarred 41 = .ok (.iconst 0, 1) := by decide +kernel
theorem dX3_countBarred_42 : decode cX3_countBarred 42 = .ok (.iadd, 1) := by decide +kernel
theorem dX3_countBarred_43 : decode cX3_countBarred 43 = .ok (.istore_n 1, 1) := by decide +kernel
theorem dX3_countBarred_44 : decode cX3_countBarred 44 = .ok (.iinc 3 1, 3) := by decide +kernel
theorem dX3_countBarred_47 : decode cX3_countBarred 47 = .ok (.goto (-33), 3) := by decide +kernel
theorem dX3_countBarred_50 : decode cX3_countBarred 50 = .ok (.iinc 2 1, 3) := by decide +kernel
theorem dX3_countBarred_53 : decode cX3_countBarred 53 = .ok (.goto (-49), 3) := by decide +kernel
theorem dX3_countBarred_56 : decode cX3_countBarred 56 = .ok (.iload_n 1, 1) := by decide +kernel
theorem dX3_countBarred_57 : decode cX3_countBarred 57 = .ok (.ireturn, 1) := by decide +kernel
theorem dX4_init_0 : decode cX4_init 0 = .ok (.aload_n 0, 1) := by decide +kernel
theorem dX4_init_1 : decode cX4_init 1 = .ok (.invokespecial 3, 3) := by decide +kernel
theorem dX4_init_4 : decode cX4_init 4 = .ok (.aload_n 0, 1) := by decide +kernel
theorem dX4_init_5 : decode cX4_init 5 = .ok (.bipush 60, 2) := by decide +kernel
theorem dX4_init_7 : decode cX4_init 7 = .ok (.newarray .int, 2) := by decide +kernel
theorem dX4_init_9 : decode cX4_init 9 = .ok (.putfield 9, 3) := by decide +kernel
theorem dX4_init_12 : decode cX4_init 12 = .ok (.aload_n 0, 1) := by decide +kernel
theorem dX4_init_13 : decode cX4_init 13 = .ok (.bipush 12, 2) := by decide +kernel
theorem dX4_init_15 : decode cX4_init 15 = .ok (.newarray .int, 2) := by decide +kernel
theorem dX4_init_17 : decode cX4_init 17 = .ok (.putfield 15, 3) := by decide +kernel
theorem dX4_init_20 : decode cX4_init 20 = .ok (.aload_n 0, 1) := by decide +kernel
theorem dX4_init_21 : decode cX4_init 21 = .ok (.bipush 12, 2) := by decide +kernel
theorem dX4_init_23 : decode cX4_init 23 = .ok (.newarray .int, 2) := by decide +kernel
theorem dX4_init_25 : decode cX4_init 25 = .ok (.putfield 18, 3) := by decide +kernel
theorem dX4_init_28 : decode cX4_init 28 = .ok (.aload_n 0, 1) := by decide +kernel
theorem dX4_init_29 : decode cX4_init 29 = .ok (.bipush 12, 2) := by decide +kernel
theorem dX4_init_31 : decode cX4_init 31 = .ok (.newarray .int, 2) := by decide +kernel
theorem dX4_init_33 : decode cX4_init 33 = .ok (.putfield 21, 3) := by decide +kernel
theorem dX4_init_36 : decode cX4_init 36 = .ok (.return_, 1) := by decide +kernel
theorem dX4_put_0 : decode cX4_put 0 = .ok (.aload_n 0, 1) := by decide +kernel
theorem dX4_put_1 : decode cX4_put 1 = .ok (.getfield 24, 3) := by decide +kernel
theorem dX4_put_4 : decode cX4_put 4 = .ok (.bipush 60, 2) := by decide +kernel
theorem dX4_put_6 : decode cX4_put 6 = .ok (.if_icmp .ge 23, 3) := by decide +kernel
theorem dX4_put_9 : decode cX4_put 9 = .ok (.aload_n 0, 1) := by decide +kernel
theorem dX4_put_10 : decode cX4_put 10 = .ok (.getfield 9, 3) := by decide +kernel
theorem dX4_put_13 : decode cX4_put 13 = .ok (.aload_n 0, 1) := by decide +kernel
theorem dX4_put_14 : decode cX4_put 14 = .ok (.getfield 24, 3) := by decide +kernel
theorem dX4_put_17 : decode cX4_put 17 = .ok (.iload_n 1, 1) := by decide +kernel
theorem dX4_put_18 : decode cX4_put 18 = .ok (.iastore, 1) := by decide +kernel
theorem dX4_put_19 : decode cX4_put 19 = .ok (.aload_n 0, 1) := by decide +kernel
theorem dX4_put_20 : decode cX4_put 20 = .ok (.dup, 1) := by decide +kernel
theorem dX4_put_21 : decode cX4_put 21 = .ok (.getfield 24, 3) := by decide +kernel
theorem dX4_put_24 : decode cX4_put 24 = .ok (.iconst 1, 1) := by decide +kernel
theorem dX4_put_25 : decode cX4_put 25 = .ok (.iadd, 1) := by decide +kernel
theorem dX4_put_26 : decode cX4_put 26 = .ok (.putfield 24, 3) := by decide +kernel
theorem dX4_put_29 : decode cX4_put 29 = .ok (.return_, 1) := by decide +kernel
theorem dX4_scan_0 : decode cX4_scan 0 = .ok (.aload_n 0, 1) := by decide +kernel
theorem dX4_scan_1 : decode cX4_scan 1 = .ok (.iconst 0, 1) := by decide +kernel
theorem dX4_scan_2 : decode cX4_scan 2 = .ok (.putfield 28, 3) := by decide +kernel
theorem dX4_scan_5 : decode cX4_scan 5 = .ok (.aload_n 0, 1) := by decide +kernel
theorem dX4_scan_6 : decode cX4_scan 6 = .ok (.iconst 0, 1) := by decide +kernel
theorem dX4_scan_7 : decode cX4_scan 7 = .ok (.putfield 31, 3) := by decide +kernel
theorem dX4_scan_10 : decode cX4_scan 10 = .ok (.iconst 0, 1) := by decide +kernel
theorem dX4_scan_11 : decode cX4_scan 11 = .ok (.istore_n 1, 1) := by decide +kernel
theorem dX4_scan_12 : decode cX4_scan 12 = .ok (.iload_n 1, 1) := by decide +kernel
theorem dX4_scan_13 : decode cX4_scan 13 = .ok (.aload_n 0, 1) := by decide +kernel
theorem dX4_scan_14 : decode cX4_scan 14 = .ok (.getfield 24, 3) := by decide +kernel
theorem dX4_scan_17 : decode cX4_scan 17 = .ok (.if_icmp .ge 24, 3) := by decide +kernel
theorem dX4_scan_20 : decode cX4_scan 20 = .ok (.aload_n 0, 1) := by decide +kernel
theorem dX4_scan_21 : decode cX4_scan 21 = .ok (.aload_n 0, 1) := by decide +kernel
theorem dX4_scan_22 : decode cX4_scan 22 = .ok (.getfield 9, 3) := by decide +kernel
theorem dX4_scan_25 : decode cX4_scan 25 = .ok (.iload_n 1, 1) := by decide +kernel
theorem dX4_scan_26 : decode cX4_scan 26 = .ok (.iaload, 1) := by decide +kernel
theorem dX4_scan_27 : decode cX4_scan 27 = .ok (.invokevirtual 34, 3) := by decide +kernel
theorem dX4_scan_30 : decode cX4_scan 30 = .ok (.ifCond .ne 5, 3) := by decide +kernel
theorem dX4_scan_33 : decode cX4_scan 33 = .ok (.iload_n 1, 1) := by decide +kernel
theorem dX4_scan_34 : decode cX4_scan 34 = .ok (.ireturn, 1) := by decide +kernel
theorem dX4_scan_35 : decode cX4_scan 35 = .ok (.iinc 1 1, 3) := by decide +kernel
theorem dX4_scan_38 : decode cX4_scan 38 = .ok (.goto (-26), 3) := by decide +kernel
theorem dX4_scan_41 : decode cX4_scan 41 = .ok (.aload_n 0, 1) := by decide +kernel
theorem dX4_scan_42 : decode cX4_scan 42 = .ok (.getfield 24, 3) := by decide +kernel
theorem dX4_scan_45 : decode cX4_scan 45 = .ok (.ireturn, 1) := by decide +kernel
theorem dX4_isWhole_0 : decode cX4_isWhole 0 = .ok (.aload_n 0, 1) := by decide +kernel
theorem dX4_isWhole_1 : decode cX4_isWhole 1 = .ok (.invokevirtual 38, 3) := by decide +kernel
theorem dX4_isWhole_4 : decode cX4_isWhole 4 = .ok (.aload_n 0, 1) := by decide +kernel
theorem dX4_isWhole_5 : decode cX4_isWhole 5 = .ok (.getfield 24, 3) := by decide +kernel
theorem dX4_isWhole_8 : decode cX4_isWhole 8 = .ok (.if_icmp .ne 23, 3) := by decide +kernel
theorem dX4_isWhole_11 : decode cX4_isWhole 11 = .ok (.aload_n 0, 1) := by decide +kernel
theorem dX4_isWhole_12 : decode cX4_isWhole 12 = .ok (.getfield 31, 3) := by decide +kernel
theorem dX4_isWhole_15 : decode cX4_isWhole 15 = .ok (.iconst 3, 1) := by decide +kernel
theorem dX4_isWhole_16 : decode cX4_isWhole 16 = .ok (.if_icmp .eq 11, 3) := by decide +kernel
theorem dX4_isWhole_19 : decode cX4_isWhole 19 = .ok (.aload_n 0, 1) := by decide +kernel
theorem dX4_isWhole_20 : decode cX4_isWhole 20 = .ok (.getfield 31, 3) := by decide +kernel
theorem dX4_isWhole_23 : decode cX4_isWhole 23 = .ok (.iconst 4, 1) := by decide +kernel
theorem dX4_isWhole_24 : decode cX4_isWhole 24 = .ok (.if_icmp .ne 7, 3) := by decide +kernel
theorem dX4_isWhole_27 : decode cX4_isWhole 27 = .ok (.iconst 1, 1) := by decide +kernel
theorem dX4_isWhole_28 : decode cX4_isWhole 28 = .ok (.goto 4, 3) := by decide +kernel
theorem dX4_isWhole_31 : decode cX4_isWhole 31 = .ok (.iconst 0, 1) := by decide +kernel
theorem dX4_isWhole_32 : decode cX4_isWhole 32 = .ok (.ireturn, 1) := by decide +kernel
theorem dX4_howManyRoads_0 : decode cX4_howManyRoads 0 = .ok (.aload_n 0, 1) := by decide +kernel
theorem dX4_howManyRoads_1 : decode cX4_howManyRoads 1 = .ok (.getfield 28, 3) := by decide +kernel
theorem dX4_howManyRoads_4 : decode cX4_howManyRoads 4 = .ok (.iconst 1, 1) := by decide +kernel
theorem dX4_howManyRoads_5 : decode cX4_howManyRoads 5 = .ok (.iadd, 1) := by decide +kernel
theorem dX4_howManyRoads_6 : decode cX4_howManyRoads 6 = .ok (.ireturn, 1) := by decide +kernel
theorem dX4_takes_0 : decode cX4_takes 0 = .ok (.aload_n 0, 1) := by decide +kernel
theorem dX4_takes_1 : decode cX4_takes 1 = .ok (.getfield 31, 3) := by decide +kernel
theorem dX4_takes_4 : decode cX4_takes 4 = .ok (.tableswitch 72 0 3 #[32, 38, 44, 50], 32) := by decide +kernel
theorem dX4_takes_36 : decode cX4_takes 36 = .ok (.aload_n 0, 1) := by decide +kernel
theorem dX4_takes_37 : decode cX4_takes 37 = .ok (.iload_n 1, 1) := by decide +kernel
theorem dX4_takes_38 : decode cX4_takes 38 = .ok (.invokevirtual 42, 3) := by decide +kernel
theorem dX4_takes_41 : decode cX4_takes 41 = .ok (.ireturn, 1) := by decide +kernel
theorem dX4_takes_42 : decode cX4_takes 42 = .ok (.aload_n 0, 1) := by decide +kernel
theorem dX4_takes_43 : decode cX4_takes 43 = .ok (.iload_n 1, 1) := by decide +kernel
theorem dX4_takes_44 : decode cX4_takes 44 = .ok (.invokevirtual 45, 3) := by decide +kernel
theorem dX4_takes_47 : decode cX4_takes 47 = .ok (.ireturn, 1) := by decide +kernel
theorem dX4_takes_48 : decode cX4_takes 48 = .ok (.aload_n 0, 1) := by decide +kernel
theorem dX4_takes_49 : decode cX4_takes 49 = .ok (.iload_n 1, 1) := by decide +kernel
theorem dX4_takes_50 : decode cX4_takes 50 = .ok (.invokevirtual 48, 3) := by decide +kernel
theorem dX4_takes_53 : decode cX4_takes 53 = .ok (.ireturn, 1) := by decide +kernel
theorem dX4_takes_54 : decode cX4_takes 54 = .ok (.aload_n 0, 1) := by decide +kernel
theorem dX4_takes_55 : decode cX4_takes 55 = .ok (.iload_n 1, 1) := by decide +kernel
theorem dX4_takes_56 : decode cX4_takes 56 = .ok (.invokevirtual 51, 3) := by decide +kernel
theorem dX4_takes_59 : decode cX4_takes 59 = .ok (.ifCond .ne 11, 3) := by decide +kernel
theorem dX4_takes_62 : decode cX4_takes 62 = .ok (.aload_n 0, 1) := by decide +kernel
theorem dX4_takes_63 : decode cX4_takes 63 = .ok (.iload_n 1, 1) := by decide +kernel
theorem dX4_takes_64 : decode cX4_takes 64 = .ok (.invokevirtual 54, 3) := by decide +kernel
theorem dX4_takes_67 : decode cX4_takes 67 = .ok (.ifCond .eq 7, 3) := by decide +kernel
theorem dX4_takes_70 : decode cX4_takes 70 = .ok (.iconst 1, 1) := by decide +kernel
theorem dX4_takes_71 : decode cX4_takes 71 = .ok (.goto 4, 3) := by decide +kernel
theorem dX4_takes_74 : decode cX4_takes 74 = .ok (.iconst 0, 1) := by decide +kernel
theorem dX4_takes_75 : decode cX4_takes 75 = .ok (.ireturn, 1) := by decide +kernel
theorem dX4_takes_76 : decode cX4_takes 76 = .ok (.aload_n 0, 1) := by decide +kernel
theorem dX4_takes_77 : decode cX4_takes 77 = .ok (.iload_n 1, 1) := by decide +kernel
theorem dX4_takes_78 : decode cX4_takes 78 = .ok (.invokevirtual 54, 3) := by decide +kernel
theorem dX4_takes_81 : decode cX4_takes 81 = .ok (.ireturn, 1) := by decide +kernel
theorem dX4_takesBegin_0 : decode cX4_takesBegin 0 = .ok (.iload_n 1, 1) := by decide +kernel
theorem dX4_takesBegin_1 : decode cX4_takesBegin 1 = .ok (.bipush 97, 2) := by decide +kernel
theorem dX4_takesBegin_3 : decode cX4_takesBegin 3 = .ok (.isub, 1) := by decide +kernel
theorem dX4_takesBegin_4 : decode cX4_takesBegin 4 = .ok (.istore_n 2, 1) := by decide +kernel
theorem dX4_takesBegin_5 : decode cX4_takesBegin 5 = .ok (.iload_n 2, 1) := by decide +kernel
theorem dX4_takesBegin_6 : decode cX4_takesBegin 6 = .ok (.invokestatic 57, 3) := by decide +kernel
theorem dX4_takesBegin_9 : decode cX4_takesBegin 9 = .ok (.ifCond .ne 5, 3) := by decide +kernel
theorem dX4_takesBegin_12 : decode cX4_takesBegin 12 = .ok (.iconst 0, 1) := by decide +kernel
theorem dX4_takesBegin_13 : decode cX4_takesBegin 13 = .ok (.ireturn, 1) := by decide +kernel
theorem dX4_takesBegin_14 : decode cX4_takesBegin 14 = .ok (.aload_n 0, 1) := by decide +kernel
theorem dX4_takesBegin_15 : decode cX4_takesBegin 15 = .ok (.getfield 15, 3) := by decide +kernel
theorem dX4_takesBegin_18 : decode cX4_takesBegin 18 = .ok (.aload_n 0, 1) := by decide +kernel
theorem dX4_takesBegin_19 : decode cX4_takesBegin 19 = .ok (.getfield 28, 3) := by decide +kernel
theorem dX4_takesBegin_22 : decode cX4_takesBegin 22 = .ok (.iload_n 2, 1) := by decide +kernel
theorem dX4_takesBegin_23 : decode cX4_takesBegin 23 = .ok (.iastore, 1) := by decide +kernel
theorem dX4_takesBegin_24 : decode cX4_takesBegin 24 = .ok (.aload_n 0, 1) := by decide +kernel
theorem dX4_takesBegin_25 : decode cX4_takesBegin 25 = .ok (.iconst 1, 1) := by decide +kernel
theorem dX4_takesBegin_26 : decode cX4_takesBegin 26 = .ok (.putfield 31, 3) := by decide +kernel
theorem dX4_takesBegin_29 : decode cX4_takesBegin 29 = .ok (.iconst 1, 1) := by decide +kernel
theorem dX4_takesBegin_30 : decode cX4_takesBegin 30 = .ok (.ireturn, 1) := by decide +kernel
theorem dX4_takesEnd_0 : decode cX4_takesEnd 0 = .ok (.iload_n 1, 1) := by decide +kernel
theorem dX4_takesEnd_1 : decode cX4_takesEnd 1 = .ok (.bipush 97, 2) := by decide +kernel
theorem dX4_takesEnd_3 : decode cX4_takesEnd 3 = .ok (.isub, 1) := by decide +kernel
theorem dX4_takesEnd_4 : decode cX4_takesEnd 4 = .ok (.istore_n 2, 1) := by decide +kernel
theorem dX4_takesEnd_5 : decode cX4_takesEnd 5 = .ok (.iload_n 2, 1) := by decide +kernel
theorem dX4_takesEnd_6 : decode cX4_takesEnd 6 = .ok (.invokestatic 57, 3) := by decide +kernel
theorem dX4_takesEnd_9 : decode cX4_takesEnd 9 = .ok (.ifCond .eq 16, 3) := by decide +kernel
theorem dX4_takesEnd_12 : decode cX4_takesEnd 12 = .ok (.iload_n 2, 1) := by decide +kernel
theorem dX4_takesEnd_13 : decode cX4_takesEnd 13 = .ok (.aload_n 0, 1) := by decide +kernel
theorem dX4_takesEnd_14 : decode cX4_takesEnd 14 = .ok (.getfield 15, 3) := by decide +kernel
theorem dX4_takesEnd_17 : decode cX4_takesEnd 17 = .ok (.aload_n 0, 1) := by decide +kernel
theorem dX4_takesEnd_18 : decode cX4_takesEnd 18 = .ok (.getfield 28, 3) := by decide +kernel
theorem dX4_takesEnd_21 : decode cX4_takesEnd 21 = .ok (.iaload, 1) := by decide +kernel
theorem dX4_takesEnd_22 : decode cX4_takesEnd 22 = .ok (.if_icmp .ne 5, 3) := by decide +kernel
theorem dX4_takesEnd_25 : decode cX4_takesEnd 25 = .ok (.iconst 0, 1) := by decide +kernel
theorem dX4_takesEnd_26 : decode cX4_takesEnd 26 = .ok (.ireturn, 1) := by decide +kernel
theorem dX4_takesEnd_27 : decode cX4_takesEnd 27 = .ok (.aload_n 0, 1) := by decide +kernel
theorem dX4_takesEnd_28 : decode cX4_takesEnd 28 = .ok (.getfield 18, 3) := by decide +kernel
theorem dX4_takesEnd_31 : decode cX4_takesEnd 31 = .ok (.aload_n 0, 1) := by decide +kernel
theorem dX4_takesEnd_32 : decode cX4_takesEnd 32 = .ok (.getfield 28, 3) := by decide +kernel
theorem dX4_takesEnd_35 : decode cX4_takesEnd 35 = .ok (.iload_n 2, 1) := by decide +kernel
theorem dX4_takesEnd_36 : decode cX4_takesEnd 36 = .ok (.iastore, 1) := by decide +kernel
theorem dX4_takesEnd_37 : decode cX4_takesEnd 37 = .ok (.aload_n 0, 1) := by decide +kernel
theorem dX4_takesEnd_38 : decode cX4_takesEnd 38 = .ok (.iconst 2, 1) := by decide +kernel
theorem dX4_takesEnd_39 : decode cX4_takesEnd 39 = .ok (.putfield 31, 3) := by decide +kernel
theorem dX4_takesEnd_42 : decode cX4_takesEnd 42 = .ok (.iconst 1, 1) := by decide +kernel
theorem dX4_takesEnd_43 : decode cX4_takesEnd 43 = .ok (.ireturn, 1) := by decide +kernel
theorem dX4_takesFirstFigure_0 : decode cX4_takesFirstFigure 0 = .ok (.iload_n 1, 1) := by decide +kernel
theorem dX4_takesFirstFigure_1 : decode cX4_takesFirstFigure 1 = .ok (.bipush 49, 2) := by decide +kernel
theorem dX4_takesFirstFigure_3 : decode cX4_takesFirstFigure 3 = .ok (.if_icmp .lt 9, 3) := by decide +kernel
theorem dX4_takesFirstFigure_6 : decode cX4_takesFirstFigure 6 = .ok (.iload_n 1, 1) := by decide +kernel
theorem dX4_takesFirstFigure_7 : decode cX4_takesFirstFigure 7 = .ok (.bipush 57, 2) := by decide +kernel
theorem dX4_takesFirstFigure_9 : decode cX4_takesFirstFigure 9 = .ok (.if_icmp .le 5, 3) := by decide +kernel
theorem dX4_takesFirstFigure_12 : decode cX4_takesFirstFigure 12 = .ok (.iconst 0, 1) := by decide +kernel
theorem dX4_takesFirstFigure_13 : decode cX4_takesFirstFigure 13 = .ok (.ireturn, 1) := by decide +kernel
theorem dX4_takesFirstFigure_14 : decode cX4_takesFirstFigure 14 = .ok (.aload_n 0, 1) := by decide +kernel
theorem dX4_takesFirstFigure_15 : decode cX4_takesFirstFigure 15 = .ok (.getfield 21, 3) := by decide +kernel
theorem dX4_takesFirstFigure_18 : decode cX4_takesFirstFigure 18 = .ok (.aload_n 0, 1) := by decide +kernel
theorem dX4_takesFirstFigure_19 : decode cX4_takesFirstFigure 19 = .ok (.getfield 28, 3) := by decide +kernel
theorem dX4_takesFirstFigure_22 : decode cX4_takesFirstFigure 22 = .ok (.iload_n 1, 1) := by decide +kernel
theorem dX4_takesFirstFigure_23 : decode cX4_takesFirstFigure 23 = .ok (.bipush 48, 2) := by decide +kernel
theorem dX4_takesFirstFigure_25 : decode cX4_takesFirstFigure 25 = .ok (.isub, 1) := by decide +kernel
theorem dX4_takesFirstFigure_26 : decode cX4_takesFirstFigure 26 = .ok (.iastore, 1) := by decide +kernel
theorem dX4_takesFirstFigure_27 : decode cX4_takesFirstFigure 27 = .ok (.aload_n 0, 1) := by decide +kernel
theorem dX4_takesFirstFigure_28 : decode cX4_takesFirstFigure 28 = .ok (.iconst 3, 1) := by decide +kernel
theorem dX4_takesFirstFigure_29 : decode cX4_takesFirstFigure 29 = .ok (.putfield 31, 3) := by decide +kernel
theorem dX4_takesFirstFigure_32 : decode cX4_takesFirstFigure 32 = .ok (.iconst 1, 1) := by decide +kernel
theorem dX4_takesFirstFigure_33 : decode cX4_takesFirstFigure 33 = .ok (.ireturn, 1) := by decide +kernel
theorem dX4_takesSecondFigure_0 : decode cX4_takesSecondFigure 0 = .ok (.iload_n 1, 1) := by decide +kernel
theorem dX4_takesSecondFigure_1 : decode cX4_takesSecondFigure 1 = .ok (.bipush 48, 2) := by decide +kernel
theorem dX4_takesSecondFigure_3 : decode cX4_takesSecondFigure 3 = .ok (.if_icmp .lt 9, 3) := by decide +kernel
theorem dX4_takesSecondFigure_6 : decode cX4_takesSecondFigure 6 = .ok (.iload_n 1, 1) := by decide +kernel
theorem dX4_takesSecondFigure_7 : decode cX4_takesSecondFigure 7 = .ok (.bipush 57, 2) := by decide +kernel
theorem dX4_takesSecondFigure_9 : decode cX4_takesSecondFigure 9 = .ok (.if_icmp .le 5, 3) := by decide +kernel
theorem dX4_takesSecondFigure_12 : decode cX4_takesSecondFigure 12 = .ok (.iconst 0, 1) := by decide +kernel
theorem dX4_takesSecondFigure_13 : decode cX4_takesSecondFigure 13 = .ok (.ireturn, 1) := by decide +kernel
theorem dX4_takesSecondFigure_14 : decode cX4_takesSecondFigure 14 = .ok (.aload_n 0, 1) := by decide +kernel
theorem dX4_takesSecondFigure_15 : decode cX4_takesSecondFigure 15 = .ok (.getfield 21, 3) := by decide +kernel
theorem dX4_takesSecondFigure_18 : decode cX4_takesSecondFigure 18 = .ok (.aload_n 0, 1) := by decide +kernel
theorem dX4_takesSecondFigure_19 : decode cX4_takesSecondFigure 19 = .ok (.getfield 28, 3) := by decide +kernel
theorem dX4_takesSecondFigure_22 : decode cX4_takesSecondFigure 22 = .ok (.aload_n 0, 1) := by decide +kernel
theorem dX4_takesSecondFigure_23 : decode cX4_takesSecondFigure 23 = .ok (.getfield 21, 3) := by decide +kernel
theorem dX4_takesSecondFigure_26 : decode cX4_takesSecondFigure 26 = .ok (.aload_n 0, 1) := by decide +kernel
theorem dX4_takesSecondFigure_27 : decode cX4_takesSecondFigure 27 = .ok (.getfield 28, 3) := by decide +kernel
theorem dX4_takesSecondFigure_30 : decode cX4_takesSecondFigure 30 = .ok (.iaload, 1) := by decide +kernel
theorem dX4_takesSecondFigure_31 : decode cX4_takesSecondFigure 31 = .ok (.bipush 10, 2) := by decide +kernel
theorem dX4_takesSecondFigure_33 : decode cX4_takesSecondFigure 33 = .ok (.imul, 1) := by decide +kernel
theorem dX4_takesSecondFigure_34 : decode cX4_takesSecondFigure 34 = .ok (.iload_n 1, 1) := by decide +kernel
theorem dX4_takesSecondFigure_35 : decode cX4_takesSecondFigure 35 = .ok (.iadd, 1) := by decide +kernel
theorem dX4_takesSecondFigure_36 : decode cX4_takesSecondFigure 36 = .ok (.bipush 48, 2) := by decide +kernel
theorem dX4_takesSecondFigure_38 : decode cX4_takesSecondFigure 38 = .ok (.isub, 1) := by decide +kernel
theorem dX4_takesSecondFigure_39 : decode cX4_takesSecondFigure 39 = .ok (.iastore, 1) := by decide +kernel
theorem dX4_takesSecondFigure_40 : decode cX4_takesSecondFigure 40 = .ok (.aload_n 0, 1) := by decide +kernel
theorem dX4_takesSecondFigure_41 : decode cX4_takesSecondFigure 41 = .ok (.iconst 4, 1) := by decide +kernel
theorem dX4_takesSecondFigure_42 : decode cX4_takesSecondFigure 42 = .ok (.putfield 31, 3) := by decide +kernel
theorem dX4_takesSecondFigure_45 : decode cX4_takesSecondFigure 45 = .ok (.iconst 1, 1) := by decide +kernel
theorem dX4_takesSecondFigure_46 : decode cX4_takesSecondFigure 46 = .ok (.ireturn, 1) := by decide +kernel
theorem dX4_takesComma_0 : decode cX4_takesComma 0 = .ok (.iload_n 1, 1) := by decide +kernel
theorem dX4_takesComma_1 : decode cX4_takesComma 1 = .ok (.bipush 44, 2) := by decide +kernel
theorem dX4_takesComma_3 : decode cX4_takesComma 3 = .ok (.if_icmp .ne 14, 3) := by decide +kernel
theorem dX4_takesComma_6 : decode cX4_takesComma 6 = .ok (.aload_n 0, 1) := by decide +kernel
theorem dX4_takesComma_7 : decode cX4_takesComma 7 = .ok (.getfield 28, 3) := by decide +kernel
theorem dX4_takesComma_10 : decode cX4_takesComma 10 = .ok (.iconst 1, 1) := by decide +kernel
theorem dX4_takesComma_11 : decode cX4_takesComma 11 = .ok (.iadd, 1) := by decide +kernel
theorem dX4_takesComma_12 : decode cX4_takesComma 12 = .ok (.bipush 12, 2) := by decide +kernel
theorem dX4_takesComma_14 : decode cX4_takesComma 14 = .ok (.if_icmp .lt 5, 3) := by decide +kernel
theorem dX4_takesComma_17 : decode cX4_takesComma 17 = .ok (.iconst 0, 1) := by decide +kernel
theorem dX4_takesComma_18 : decode cX4_takesComma 18 = .ok (.ireturn, 1) := by decide +kernel
theorem dX4_takesComma_19 : decode cX4_takesComma 19 = .ok (.aload_n 0, 1) := by decide +kernel
theorem dX4_takesComma_20 : decode cX4_takesComma 20 = .ok (.dup, 1) := by decide +kernel
theorem dX4_takesComma_21 : decode cX4_takesComma 21 = .ok (.getfield 28, 3) := by decide +kernel
theorem dX4_takesComma_24 : decode cX4_takesComma 24 = .ok (.iconst 1, 1) := by decide +kernel
theorem dX4_takesComma_25 : decode cX4_takesComma 25 = .ok (.iadd, 1) := by decide +kernel
theorem dX4_takesComma_26 : decode cX4_takesComma 26 = .ok (.putfield 28, 3) := by decide +kernel
theorem dX4_takesComma_29 : decode cX4_takesComma 29 = .ok (.aload_n 0, 1) := by decide +kernel
theorem dX4_takesComma_30 : decode cX4_takesComma 30 = .ok (.iconst 0, 1) := by decide +kernel
theorem dX4_takesComma_31 : decode cX4_takesComma 31 = .ok (.putfield 31, 3) := by decide +kernel
theorem dX4_takesComma_34 : decode cX4_takesComma 34 = .ok (.iconst 1, 1) := by decide +kernel
theorem dX4_takesComma_35 : decode cX4_takesComma 35 = .ok (.ireturn, 1) := by decide +kernel
theorem dX5_init_0 : decode cX5_init 0 = .ok (.aload_n 0, 1) := by decide +kernel
theorem dX5_init_1 : decode cX5_init 1 = .ok (.invokespecial 3, 3) := by decide +kernel
theorem dX5_init_4 : decode cX5_init 4 = .ok (.aload_n 0, 1) := by decide +kernel
theorem dX5_init_5 : decode cX5_init 5 = .ok (.bipush 64, 2) := by decide +kernel
theorem dX5_init_7 : decode cX5_init 7 = .ok (.newarray .int, 2) := by decide +kernel
theorem dX5_init_9 : decode cX5_init 9 = .ok (.putfield 9, 3) := by decide +kernel
theorem dX5_init_12 : decode cX5_init 12 = .ok (.aload_n 0, 1) := by decide +kernel
theorem dX5_init_13 : decode cX5_init 13 = .ok (.bipush 64, 2) := by decide +kernel
theorem dX5_init_15 : decode cX5_init 15 = .ok (.newarray .int, 2) := by decide +kernel
theorem dX5_init_17 : decode cX5_init 17 = .ok (.putfield 15, 3) := by decide +kernel
theorem dX5_init_20 : decode cX5_init 20 = .ok (.aload_n 0, 1) := by decide +kernel
theorem dX5_init_21 : decode cX5_init 21 = .ok (.new 18, 3) := by decide +kernel
theorem dX5_init_24 : decode cX5_init 24 = .ok (.dup, 1) := by decide +kernel
theorem dX5_init_25 : decode cX5_init 25 = .ok (.invokespecial 20, 3) := by decide +kernel
theorem dX5_init_28 : decode cX5_init 28 = .ok (.putfield 21, 3) := by decide +kernel
theorem dX5_init_31 : decode cX5_init 31 = .ok (.aload_n 0, 1) := by decide +kernel
theorem dX5_init_32 : decode cX5_init 32 = .ok (.getfield 9, 3) := by decide +kernel
theorem dX5_init_35 : decode cX5_init 35 = .ok (.ldc 25, 2) := by decide +kernel
theorem dX5_init_37 : decode cX5_init 37 = .ok (.invokestatic 26, 3) := by decide +kernel
theorem dX5_init_40 : decode cX5_init 40 = .ok (.return_, 1) := by decide +kernel
theorem dX5_measure_0 : decode cX5_measure 0 = .ok (.aload_n 0, 1) := by decide +kernel
theorem dX5_measure_1 : decode cX5_measure 1 = .ok (.getfield 9, 3) := by decide +kernel
theorem dX5_measure_4 : decode cX5_measure 4 = .ok (.aload_n 1, 1) := by decide +kernel
theorem dX5_measure_5 : decode cX5_measure 5 = .ok (.aload_n 2, 1) := by decide +kernel
theorem dX5_measure_6 : decode cX5_measure 6 = .ok (.iconst (-1), 1) := by decide +kernel
theorem dX5_measure_7 : decode cX5_measure 7 = .ok (.invokestatic 32, 3) := by decide +kernel
theorem dX5_measure_10 : decode cX5_measure 10 = .ok (.return_, 1) := by decide +kernel
theorem dX5_fillWith_0 : decode cX5_fillWith 0 = .ok (.aload_n 0, 1) := by decide +kernel
theorem dX5_fillWith_1 : decode cX5_fillWith 1 = .ok (.ldc 25, 2) := by decide +kernel
theorem dX5_fillWith_3 : decode cX5_fillWith 3 = .ok (.invokestatic 26, 3) := by decide +kernel
theorem dX5_fillWith_6 : decode cX5_fillWith 6 = .ok (.iconst 0, 1) := by decide +kernel
theorem dX5_fillWith_7 : decode cX5_fillWith 7 = .ok (.istore 4, 2) := by decide +kernel
theorem dX5_fillWith_9 : decode cX5_fillWith 9 = .ok (.iload 4, 2) := by decide +kernel
theorem dX5_fillWith_11 : decode cX5_fillWith 11 = .ok (.aload_n 1, 1) := by decide +kernel
theorem dX5_fillWith_12 : decode cX5_fillWith 12 = .ok (.getfield 36, 3) := by decide +kernel
theorem dX5_fillWith_15 : decode cX5_fillWith 15 = .ok (.if_icmp .ge 117, 3) := by decide +kernel
theorem dX5_fillWith_18 : decode cX5_fillWith 18 = .ok (.iconst 0, 1) := by decide +kernel
theorem dX5_fillWith_19 : decode cX5_fillWith 19 = .ok (.istore 5, 2) := by decide +kernel
theorem dX5_fillWith_21 : decode cX5_fillWith 21 = .ok (.iload 5, 2) := by decide +kernel
theorem dX5_fillWith_23 : decode cX5_fillWith 23 = .ok (.aload_n 1, 1) := by decide +kernel
theorem dX5_fillWith_24 : decode cX5_fillWith 24 = .ok (.getfield 36, 3) := by decide +kernel
theorem dX5_fillWith_27 : decode cX5_fillWith 27 = .ok (.if_icmp .ge 99, 3) := by decide +kernel
theorem dX5_fillWith_30 : decode cX5_fillWith 30 = .ok (.aload_n 2, 1) := by decide +kernel
theorem dX5_fillWith_31 : decode cX5_fillWith 31 = .ok (.iload 4, 2) := by decide +kernel
theorem dX5_fillWith_33 : decode cX5_fillWith 33 = .ok (.iload 5, 2) := by decide +kernel
theorem dX5_fillWith_35 : decode cX5_fillWith 35 = .ok (.invokevirtual 42, 3) := by decide +kernel
theorem dX5_fillWith_38 : decode cX5_fillWith 38 = .ok (.istore 6, 2) := by decide +kernel
theorem dX5_fillWith_40 : decode cX5_fillWith 40 = .ok (.aload_n 1, 1) := by decide +kernel
theorem dX5_fillWith_41 : decode cX5_fillWith 41 = .ok (.getfield 46, 3) := by decide +kernel
theorem dX5_fillWith_44 : decode cX5_fillWith 44 = .ok (.iload 4, 2) := by decide +kernel
theorem dX5_fillWith_46 : decode cX5_fillWith 46 = .ok (.iaload, 1) := by decide +kernel
theorem dX5_fillWith_47 : decode cX5_fillWith 47 = .ok (.bipush 8, 2) := by decide +kernel
theorem dX5_fillWith_49 : decode cX5_fillWith 49 = .ok (.imul, 1) := by decide +kernel
theorem dX5_fillWith_50 : decode cX5_fillWith 50 = .ok (.aload_n 1, 1) := by decide +kernel
theorem dX5_fillWith_51 : decode cX5_fillWith 51 = .ok (.getfield 49, 3) := by decide +kernel
theorem dX5_fillWith_54 : decode cX5_fillWith 54 = .ok (.iload 5, 2) := by decide +kernel
theorem dX5_fillWith_56 : decode cX5_fillWith 56 = .ok (.iaload, 1) := by decide +kernel
theorem dX5_fillWith_57 : decode cX5_fillWith 57 = .ok (.iadd, 1) := by decide +kernel
theorem dX5_fillWith_58 : decode cX5_fillWith 58 = .ok (.istore 7, 2) := by decide +kernel
theorem dX5_fillWith_60 : decode cX5_fillWith 60 = .ok (.iload 6, 2) := by decide +kernel
theorem dX5_fillWith_62 : decode cX5_fillWith 62 = .ok (.ldc 25, 2) := by decide +kernel
theorem dX5_fillWith_64 : decode cX5_fillWith 64 = .ok (.if_icmp .ge 56, 3) := by decide +kernel
theorem dX5_fillWith_67 : decode cX5_fillWith 67 = .ok (.iload 4, 2) := by decide +kernel
theorem dX5_fillWith_69 : decode cX5_fillWith 69 = .ok (.iload_n 3, 1) := by decide +kernel
theorem dX5_fillWith_70 : decode cX5_fillWith 70 = .ok (.if_icmp .eq 50, 3) := by decide +kernel
theorem dX5_fillWith_73 : decode cX5_fillWith 73 = .ok (.iload 5, 2) := by decide +kernel
theorem dX5_fillWith_75 : decode cX5_fillWith 75 = .ok (.iload_n 3, 1) := by decide +kernel
theorem dX5_fillWith_76 : decode cX5_fillWith 76 = .ok (.if_icmp .eq 44, 3) := by decide +kernel
theorem dX5_fillWith_79 : decode cX5_fillWith 79 = .ok (.aload_n 1, 1) := by decide +kernel
theorem dX5_fillWith_80 : decode cX5_fillWith 80 = .ok (.getfield 46, 3) := by decide +kernel
theorem dX5_fillWith_83 : decode cX5_fillWith 83 = .ok (.iload 4, 2) := by decide +kernel
theorem dX5_fillWith_85 : decode cX5_fillWith 85 = .ok (.iaload, 1) := by decide +kernel
theorem dX5_fillWith_86 : decode cX5_fillWith 86 = .ok (.aload_n 1, 1) := by decide +kernel
theorem dX5_fillWith_87 : decode cX5_fillWith 87 = .ok (.getfield 49, 3) := by decide +kernel
theorem dX5_fillWith_90 : decode cX5_fillWith 90 = .ok (.iload 5, 2) := by decide +kernel
theorem dX5_fillWith_92 : decode cX5_fillWith 92 = .ok (.iaload, 1) := by decide +kernel
theorem dX5_fillWith_93 : decode cX5_fillWith 93 = .ok (.if_icmp .eq 27, 3) := by decide +kernel
theorem dX5_fillWith_96 : decode cX5_fillWith 96 = .ok (.aload_n 0, 1) := by decide +kernel
theorem dX5_fillWith_97 : decode cX5_fillWith 97 = .ok (.iload 7, 2) := by decide +kernel
theorem dX5_fillWith_99 : decode cX5_fillWith 99 = .ok (.aload_n 0, 1) := by decide +kernel
theorem dX5_fillWith_100 : decode cX5_fillWith 100 = .ok (.iload 7, 2) := by decide +kernel
theorem dX5_fillWith_102 : decode cX5_fillWith 102 = .ok (.iaload, 1) := by decide +kernel
theorem dX5_fillWith_103 : decode cX5_fillWith 103 = .ok (.aload_n 1, 1) := by decide +kernel
theorem dX5_fillWith_104 : decode cX5_fillWith 104 = .ok (.getfield 52, 3) := by decide +kernel
theorem dX5_fillWith_107 : decode cX5_fillWith 107 = .ok (.iload 4, 2) := by decide +kernel
theorem dX5_fillWith_109 : decode cX5_fillWith 109 = .ok (.iaload, 1) := by decide +kernel
theorem dX5_fillWith_110 : decode cX5_fillWith 110 = .ok (.iload 6, 2) := by decide +kernel
theorem dX5_fillWith_112 : decode cX5_fillWith 112 = .ok (.bipush 64, 2) := by decide +kernel
theorem dX5_fillWith_114 : decode cX5_fillWith 114 = .ok (.idiv, 1) := by decide +kernel
theorem dX5_fillWith_115 : decode cX5_fillWith 115 = .ok (.iadd, 1) := by decide +kernel
theorem dX5_fillWith_116 : decode cX5_fillWith 116 = .ok (.invokestatic 55, 3) := by decide +kernel
theorem dX5_fillWith_119 : decode cX5_fillWith 119 = .ok (.iastore, 1) := by decide +kernel
theorem dX5_fillWith_120 : decode cX5_fillWith 120 = .ok (.iinc 5 1, 3) := by decide +kernel
theorem dX5_fillWith_123 : decode cX5_fillWith 123 = .ok (.goto (-102), 3) := by decide +kernel
theorem dX5_fillWith_126 : decode cX5_fillWith 126 = .ok (.iinc 4 1, 3) := by decide +kernel
theorem dX5_fillWith_129 : decode cX5_fillWith 129 = .ok (.goto (-120), 3) := by decide +kernel
theorem dX5_fillWith_132 : decode cX5_fillWith 132 = .ok (.return_, 1) := by decide +kernel
theorem dX5_lossWithout_0 : decode cX5_lossWithout 0 = .ok (.aload_n 1, 1) := by decide +kernel
theorem dX5_lossWithout_1 : decode cX5_lossWithout 1 = .ok (.aload_n 0, 1) := by decide +kernel
theorem dX5_lossWithout_2 : decode cX5_lossWithout 2 = .ok (.getfield 21, 3) := by decide +kernel
theorem dX5_lossWithout_5 : decode cX5_lossWithout 5 = .ok (.iload_n 2, 1) := by decide +kernel
theorem dX5_lossWithout_6 : decode cX5_lossWithout 6 = .ok (.invokevirtual 60, 3) := by decide +kernel
theorem dX5_lossWithout_9 : decode cX5_lossWithout 9 = .ok (.aload_n 0, 1) := by decide +kernel
theorem dX5_lossWithout_10 : decode cX5_lossWithout 10 = .ok (.getfield 15, 3) := by decide +kernel
theorem dX5_lossWithout_13 : decode cX5_lossWithout 13 = .ok (.aload_n 1, 1) := by decide +kernel
theorem dX5_lossWithout_14 : decode cX5_lossWithout 14 = .ok (.aload_n 0, 1) := by decide +kernel
theorem dX5_lossWithout_15 : decode cX5_lossWithout 15 = .ok (.getfield 21, 3) := by decide +kernel
theorem dX5_lossWithout_18 : decode cX5_lossWithout 18 = .ok (.iload_n 2, 1) := by decide +kernel
theorem dX5_lossWithout_19 : decode cX5_lossWithout 19 = .ok (.invokestatic 32, 3) := by decide +kernel
theorem dX5_lossWithout_22 : decode cX5_lossWithout 22 = .ok (.iconst 0, 1) := by decide +kernel
theorem dX5_lossWithout_23 : decode cX5_lossWithout 23 = .ok (.istore 4, 2) := by decide +kernel
theorem dX5_lossWithout_25 : decode cX5_lossWithout 25 = .ok (.iconst 0, 1) := by decide +kernel
theorem dX5_lossWithout_26 : decode cX5_lossWithout 26 = .ok (.istore 5, 2) := by decide +kernel
theorem dX5_lossWithout_28 : decode cX5_lossWithout 28 = .ok (.iload 5, 2) := by decide +kernel
theorem dX5_lossWithout_30 : decode cX5_lossWithout 30 = .ok (.bipush 64, 2) := by decide +kernel
theorem dX5_lossWithout_32 : decode cX5_lossWithout 32 = .ok (.if_icmp .ge 57, 3) := by decide +kernel
theorem dX5_lossWithout_35 : decode cX5_lossWithout 35 = .ok (.aload_n 0, 1) := by decide +kernel
theorem dX5_lossWithout_36 : decode cX5_lossWithout 36 = .ok (.getfield 9, 3) := by decide +kernel
theorem dX5_lossWithout_39 : decode cX5_lossWithout 39 = .ok (.iload 5, 2) := by decide +kernel
theorem dX5_lossWithout_41 : decode cX5_lossWithout 41 = .ok (.iaload, 1) := by decide +kernel
theorem dX5_lossWithout_42 : decode cX5_lossWithout 42 = .ok (.ldc 25, 2) := by decide +kernel
theorem dX5_lossWithout_44 : decode cX5_lossWithout 44 = .ok (.if_icmp .ge 39, 3) := by decide +kernel
theorem dX5_lossWithout_47 : decode cX5_lossWithout 47 = .ok (.iload 4, 2) := by decide +kernel
theorem dX5_lossWithout_49 : decode cX5_lossWithout 49 = .ok (.aload_n 0, 1) := by decide +kernel
theorem dX5_lossWithout_50 : decode cX5_lossWithout 50 = .ok (.getfield 15, 3) := by decide +kernel
theorem dX5_lossWithout_53 : decode cX5_lossWithout 53 = .ok (.iload 5, 2) := by decide +kernel
theorem dX5_lossWithout_55 : decode cX5_lossWithout 55 = .ok (.iaload, 1) := by decide +kernel
theorem dX5_lossWithout_56 : decode cX5_lossWithout 56 = .ok (.ldc 25, 2) := by decide +kernel
theorem dX5_lossWithout_58 : decode cX5_lossWithout 58 = .ok (.if_icmp .ge 21, 3) := by decide +kernel
theorem dX5_lossWithout_61 : decode cX5_lossWithout 61 = .ok (.aload_n 0, 1) := by decide +kernel
theorem dX5_lossWithout_62 : decode cX5_lossWithout 62 = .ok (.getfield 15, 3) := by decide +kernel
theorem dX5_lossWithout_65 : decode cX5_lossWithout 65 = .ok (.iload 5, 2) := by decide +kernel
theorem dX5_lossWithout_67 : decode cX5_lossWithout 67 = .ok (.iaload, 1) := by decide +kernel
theorem dX5_lossWithout_68 : decode cX5_lossWithout 68 = .ok (.aload_n 0, 1) := by decide +kernel
theorem dX5_lossWithout_69 : decode cX5_lossWithout 69 = .ok (.getfield 9, 3) := by decide +kernel
theorem dX5_lossWithout_72 : decode cX5_lossWithout 72 = .ok (.iload 5, 2) := by decide +kernel
theorem dX5_lossWithout_74 : decode cX5_lossWithout 74 = .ok (.iaload, 1) := by decide +kernel
theorem dX5_lossWithout_75 : decode cX5_lossWithout 75 = .ok (.isub, 1) := by decide +kernel
theorem dX5_lossWithout_76 : decode cX5_lossWithout 76 = .ok (.goto 4, 3) := by decide +kernel
theorem dX5_lossWithout_79 : decode cX5_lossWithout 79 = .ok (.iload_n 3, 1) := by decide +kernel
theorem dX5_lossWithout_80 : decode cX5_lossWithout 80 = .ok (.iadd, 1) := by decide +kernel
theorem dX5_lossWithout_81 : decode cX5_lossWithout 81 = .ok (.istore 4, 2) := by decide +kernel
theorem dX5_lossWithout_83 : decode cX5_lossWithout 83 = .ok (.iinc 5 1, 3) := by decide +kernel
theorem dX5_lossWithout_86 : decode cX5_lossWithout 86 = .ok (.goto (-58), 3) := by decide +kernel
theorem dX5_lossWithout_89 : decode cX5_lossWithout 89 = .ok (.iload 4, 2) := by decide +kernel
theorem dX5_lossWithout_91 : decode cX5_lossWithout 91 = .ok (.ireturn, 1) := by decide +kernel
theorem dX5_countOpen_0 : decode cX5_countOpen 0 = .ok (.iconst 0, 1) := by decide +kernel
theorem dX5_countOpen_1 : decode cX5_countOpen 1 = .ok (.istore_n 1, 1) := by decide +kernel
theorem dX5_countOpen_2 : decode cX5_countOpen 2 = .ok (.iconst 0, 1) := by decide +kernel
theorem dX5_countOpen_3 : decode cX5_countOpen 3 = .ok (.istore_n 2, 1) := by decide +kernel
theorem dX5_countOpen_4 : decode cX5_countOpen 4 = .ok (.iload_n 2, 1) := by decide +kernel
theorem dX5_countOpen_5 : decode cX5_countOpen 5 = .ok (.bipush 64, 2) := by decide +kernel
theorem dX5_countOpen_7 : decode cX5_countOpen 7 = .ok (.if_icmp .ge 28, 3) := by decide +kernel
theorem dX5_countOpen_10 : decode cX5_countOpen 10 = .ok (.iload_n 1, 1) := by decide +kernel
theorem dX5_countOpen_11 : decode cX5_countOpen 11 = .ok (.aload_n 0, 1) := by decide +kernel
theorem dX5_countOpen_12 : decode cX5_countOpen 12 = .ok (.getfield 9, 3) := by decide +kernel
theorem dX5_countOpen_15 : decode cX5_countOpen 15 = .ok (.iload_n 2, 1) := by decide +kernel
theorem dX5_countOpen_16 : decode cX5_countOpen 16 = .ok (.iaload, 1) := by decide +kernel
theorem dX5_countOpen_17 : decode cX5_countOpen 17 = .ok (.ldc 25, 2) := by decide +kernel
theorem dX5_countOpen_19 : decode cX5_countOpen 19 = .ok (.if_icmp .ge 7, 3) := by decide +kernel
theorem dX5_countOpen_22 : decode cX5_countOpen 22 = .ok (.iconst 1, 1) := by decide +kernel
theorem dX5_countOpen_23 : decode cX5_countOpen 23 = .ok (.goto 4, 3) := by decide +kernel
theorem dX5_countOpen_26 : decode cX5_countOpen 26 = .ok (.iconst 0, 1) := by decide +kernel
theorem dX5_countOpen_27 : decode cX5_countOpen 27 = .ok (.iadd, 1) := by decide +kernel
theorem dX5_countOpen_28 : decode cX5_countOpen 28 = .ok (.istore_n 1, 1) := by decide +kernel
theorem dX5_countOpen_29 : decode cX5_countOpen 29 = .ok (.iinc 2 1, 3) := by decide +kernel
theorem dX5_countOpen_32 : decode cX5_countOpen 32 = .ok (.goto (-28), 3) := by decide +kernel
theorem dX5_countOpen_35 : decode cX5_countOpen 35 = .ok (.iload_n 1, 1) := by decide +kernel
theorem dX5_countOpen_36 : decode cX5_countOpen 36 = .ok (.ireturn, 1) := by decide +kernel
theorem dX5_sumOpen_0 : decode cX5_sumOpen 0 = .ok (.iconst 0, 1) := by decide +kernel
theorem dX5_sumOpen_1 : decode cX5_sumOpen 1 = .ok (.istore_n 1, 1) := by decide +kernel
theorem dX5_sumOpen_2 : decode cX5_sumOpen 2 = .ok (.iconst 0, 1) := by decide +kernel
theorem dX5_sumOpen_3 : decode cX5_sumOpen 3 = .ok (.istore_n 2, 1) := by decide +kernel
theorem dX5_sumOpen_4 : decode cX5_sumOpen 4 = .ok (.iload_n 2, 1) := by decide +kernel
theorem dX5_sumOpen_5 : decode cX5_sumOpen 5 = .ok (.bipush 64, 2) := by decide +kernel
theorem dX5_sumOpen_7 : decode cX5_sumOpen 7 = .ok (.if_icmp .ge 33, 3) := by decide +kernel
theorem dX5_sumOpen_10 : decode cX5_sumOpen 10 = .ok (.iload_n 1, 1) := by decide +kernel
theorem dX5_sumOpen_11 : decode cX5_sumOpen 11 = .ok (.aload_n 0, 1) := by decide +kernel
theorem dX5_sumOpen_12 : decode cX5_sumOpen 12 = .ok (.getfield 9, 3) := by decide +kernel
theorem dX5_sumOpen_15 : decode cX5_sumOpen 15 = .ok (.iload_n 2, 1) := by decide +kernel
theorem dX5_sumOpen_16 : decode cX5_sumOpen 16 = .ok (.iaload, 1) := by decide +kernel
theorem dX5_sumOpen_17 : decode cX5_sumOpen 17 = .ok (.ldc 25, 2) := by decide +kernel
theorem dX5_sumOpen_19 : decode cX5_sumOpen 19 = .ok (.if_icmp .ge 12, 3) := by decide +kernel
theorem dX5_sumOpen_22 : decode cX5_sumOpen 22 = .ok (.aload_n 0, 1) := by decide +kernel
theorem dX5_sumOpen_23 : decode cX5_sumOpen 23 = .ok (.getfield 9, 3) := by decide +kernel
theorem dX5_sumOpen_26 : decode cX5_sumOpen 26 = .ok (.iload_n 2, 1) := by decide +kernel
theorem dX5_sumOpen_27 : decode cX5_sumOpen 27 = .ok (.iaload, 1) := by decide +kernel
theorem dX5_sumOpen_28 : decode cX5_sumOpen 28 = .ok (.goto 4, 3) := by decide +kernel
theorem dX5_sumOpen_31 : decode cX5_sumOpen 31 = .ok (.iconst 0, 1) := by decide +kernel
theorem dX5_sumOpen_32 : decode cX5_sumOpen 32 = .ok (.iadd, 1) := by decide +kernel
theorem dX5_sumOpen_33 : decode cX5_sumOpen 33 = .ok (.istore_n 1, 1) := by decide +kernel
theorem dX5_sumOpen_34 : decode cX5_sumOpen 34 = .ok (.iinc 2 1, 3) := by decide +kernel
theorem dX5_sumOpen_37 : decode cX5_sumOpen 37 = .ok (.goto (-33), 3) := by decide +kernel
theorem dX5_sumOpen_40 : decode cX5_sumOpen 40 = .ok (.iload_n 1, 1) := by decide +kernel
theorem dX5_sumOpen_41 : decode cX5_sumOpen 41 = .ok (.ireturn, 1) := by decide +kernel
theorem dX6_init_0 : decode cX6_init 0 = .ok (.aload_n 0, 1) := by decide +kernel
theorem dX6_init_1 : decode cX6_init 1 = .ok (.invokespecial 3, 3) := by decide +kernel
theorem dX6_init_4 : decode cX6_init 4 = .ok (.aload_n 0, 1) := by decide +kernel
theorem dX6_init_5 : decode cX6_init 5 = .ok (.new 9, 3) := by decide +kernel
theorem dX6_init_8 : decode cX6_init 8 = .ok (.dup, 1) := by decide +kernel
theorem dX6_init_9 : decode cX6_init 9 = .ok (.invokespecial 11, 3) := by decide +kernel
theorem dX6_init_12 : decode cX6_init 12 = .ok (.putfield 12, 3) := by decide +kernel
theorem dX6_init_15 : decode cX6_init 15 = .ok (.aload_n 0, 1) := by decide +kernel
theorem dX6_init_16 : decode cX6_init 16 = .ok (.new 9, 3) := by decide +kernel
theorem dX6_init_19 : decode cX6_init 19 = .ok (.dup, 1) := by decide +kernel
theorem dX6_init_20 : decode cX6_init 20 = .ok (.invokespecial 11, 3) := by decide +kernel
theorem dX6_init_23 : decode cX6_init 23 = .ok (.putfield 18, 3) := by decide +kernel
theorem dX6_init_26 : decode cX6_init 26 = .ok (.aload_n 0, 1) := by decide +kernel
theorem dX6_init_27 : decode cX6_init 27 = .ok (.bipush 12, 2) := by decide +kernel
theorem dX6_init_29 : decode cX6_init 29 = .ok (.newarray .int, 2) := by decide +kernel
theorem dX6_init_31 : decode cX6_init 31 = .ok (.putfield 21, 3) := by decide +kernel
theorem dX6_init_34 : decode cX6_init 34 = .ok (.return_, 1) := by decide +kernel
theorem dX6_measure_0 : decode cX6_measure 0 = .ok (.aload_n 1, 1) := by decide +kernel
theorem dX6_measure_1 : decode cX6_measure 1 = .ok (.aload_n 0, 1) := by decide +kernel
theorem dX6_measure_2 : decode cX6_measure 2 = .ok (.getfield 12, 3) := by decide +kernel
theorem dX6_measure_5 : decode cX6_measure 5 = .ok (.iconst (-1), 1) := by decide +kernel
theorem dX6_measure_6 : decode cX6_measure 6 = .ok (.invokevirtual 25, 3) := by decide +kernel
theorem dX6_measure_9 : decode cX6_measure 9 = .ok (.iconst 0, 1) := by decide +kernel
theorem dX6_measure_10 : decode cX6_measure 10 = .ok (.istore_n 2, 1) := by decide +kernel
theorem dX6_measure_11 : decode cX6_measure 11 = .ok (.iload_n 2, 1) := by decide +kernel
theorem dX6_measure_12 : decode cX6_measure 12 = .ok (.aload_n 1, 1) := by decide +kernel
theorem dX6_measure_13 : decode cX6_measure 13 = .ok (.getfield 31, 3) := by decide +kernel
theorem dX6_measure_16 : decode cX6_measure 16 = .ok (.if_icmp .ge 50, 3) := by decide +kernel
theorem dX6_measure_19 : decode cX6_measure 19 = .ok (.iconst 0, 1) := by decide +kernel
theorem dX6_measure_20 : decode cX6_measure 20 = .ok (.istore_n 3, 1) := by decide +kernel
theorem dX6_measure_21 : decode cX6_measure 21 = .ok (.iload_n 3, 1) := by decide +kernel
theorem dX6_measure_22 : decode cX6_measure 22 = .ok (.aload_n 1, 1) := by decide +kernel
theorem dX6_measure_23 : decode cX6_measure 23 = .ok (.getfield 31, 3) := by decide +kernel
theorem dX6_measure_26 : decode cX6_measure 26 = .ok (.if_icmp .ge 34, 3) := by decide +kernel
theorem dX6_measure_29 : decode cX6_measure 29 = .ok (.aload_n 0, 1) := by decide +kernel
theorem dX6_measure_30 : decode cX6_measure 30 = .ok (.getfield 18, 3) := by decide +kernel
theorem dX6_measure_33 : decode cX6_measure 33 = .ok (.iload_n 2, 1) := by decide +kernel
theorem dX6_measure_34 : decode cX6_measure 34 = .ok (.iload_n 3, 1) := by decide +kernel
theorem dX6_measure_35 : decode cX6_measure 35 = .ok (.iload_n 2, 1) := by decide +kernel
theorem dX6_measure_36 : decode cX6_measure 36 = .ok (.iload_n 3, 1) := by decide +kernel
theorem dX6_measure_37 : decode cX6_measure 37 = .ok (.if_icmp .ne 7, 3) := by decide +kernel
theorem dX6_measure_40 : decode cX6_measure 40 = .ok (.iconst (-1), 1) := by decide +kernel
theorem dX6_measure_41 : decode cX6_measure 41 = .ok (.goto 10, 3) := by decide +kernel
theorem dX6_measure_44 : decode cX6_measure 44 = .ok (.aload_n 0, 1) := by decide +kernel
theorem dX6_measure_45 : decode cX6_measure 45 = .ok (.aload_n 1, 1) := by decide +kernel
theorem dX6_measure_46 : decode cX6_measure 46 = .ok (.iload_n 2, 1) := by decide +kernel
theorem dX6_measure_47 : decode cX6_measure 47 = .ok (.iload_n 3, 1) := by decide +kernel
theorem dX6_measure_48 : decode cX6_measure 48 = .ok (.invokevirtual 35, 3) := by decide +kernel
theorem dX6_measure_51 : decode cX6_measure 51 = .ok (.invokevirtual 39, 3) := by decide +kernel
theorem dX6_measure_54 : decode cX6_measure 54 = .ok (.iinc 3 1, 3) := by decide +kernel
theorem dX6_measure_57 : decode cX6_measure 57 = .ok (.goto (-36), 3) := by decide +kernel
theorem dX6_measure_60 : decode cX6_measure 60 = .ok (.iinc 2 1, 3) := by decide +kernel
theorem dX6_measure_63 : decode cX6_measure 63 = .ok (.goto (-52), 3) := by decide +kernel
theorem dX6_measure_66 : decode cX6_measure 66 = .ok (.aload_n 0, 1) := by decide +kernel
theorem dX6_measure_67 : decode cX6_measure 67 = .ok (.aload_n 1, 1) := by decide +kernel
theorem dX6_measure_68 : decode cX6_measure 68 = .ok (.getfield 31, 3) := by decide +kernel
theorem dX6_measure_71 : decode cX6_measure 71 = .ok (.invokevirtual 43, 3) := by decide +kernel
theorem dX6_measure_74 : decode cX6_measure 74 = .ok (.return_, 1) := by decide +kernel
theorem dX6_firstNext_0 : decode cX6_firstNext 0 = .ok (.aload_n 0, 1) := by decide +kernel
theorem dX6_firstNext_1 : decode cX6_firstNext 1 = .ok (.getfield 12, 3) := by decide +kernel
theorem dX6_firstNext_4 : decode cX6_firstNext 4 = .ok (.iload_n 2, 1) := by decide +kernel
theorem dX6_firstNext_5 : decode cX6_firstNext 5 = .ok (.iload_n 3, 1) := by decide +kernel
theorem dX6_firstNext_6 : decode cX6_firstNext 6 = .ok (.invokevirtual 47, 3) := by decide +kernel
theorem dX6_firstNext_9 : decode cX6_firstNext 9 = .ok (.istore 4, 2) := by decide +kernel
theorem dX6_firstNext_11 : decode cX6_firstNext 11 = .ok (.iload 4, 2) := by decide +kernel
theorem dX6_firstNext_13 : decode cX6_firstNext 13 = .ok (.ldc 51, 2) := by decide +kernel
theorem dX6_firstNext_15 : decode cX6_firstNext 15 = .ok (.if_icmp .lt 5, 3) := by decide +kernel
theorem dX6_firstNext_18 : decode cX6_firstNext 18 = .ok (.iconst (-1), 1) := by decide +kernel
theorem dX6_firstNext_19 : decode cX6_firstNext 19 = .ok (.ireturn, 1) := by decide +kernel
theorem dX6_firstNext_20 : decode cX6_firstNext 20 = .ok (.iconst 0, 1) := by decide +kernel
theorem dX6_firstNext_21 : decode cX6_firstNext 21 = .ok (.istore 5, 2) := by decide +kernel
theorem dX6_firstNext_23 : decode cX6_firstNext 23 = .ok (.iload 5, 2) := by decide +kernel
theorem dX6_firstNext_25 : decode cX6_firstNext 25 = .ok (.aload_n 1, 1) := by decide +kernel
theorem dX6_firstNext_26 : decode cX6_firstNext 26 = .ok (.getfield 31, 3) := by decide +kernel
theorem dX6_firstNext_29 : decode cX6_firstNext 29 = .ok (.if_icmp .ge 45, 3) := by decide +kernel
theorem dX6_firstNext_32 : decode cX6_firstNext 32 = .ok (.aload_n 1, 1) := by decide +kernel
theorem dX6_firstNext_33 : decode cX6_firstNext 33 = .ok (.iload_n 2, 1) := by decide +kernel
theorem dX6_firstNext_34 : decode cX6_firstNext 34 = .ok (.iload 5, 2) := by decide +kernel
theorem dX6_firstNext_36 : decode cX6_firstNext 36 = .ok (.invokevirtual 52, 3) := by decide +kernel
theorem dX6_firstNext_39 : decode cX6_firstNext 39 = .ok (.ifCond .eq 29, 3) := by decide +kernel
theorem dX6_firstNext_42 : decode cX6_firstNext 42 = .ok (.aload_n 1, 1) := by decide +kernel
theorem dX6_firstNext_43 : decode cX6_firstNext 43 = .ok (.iload_n 2, 1) := by decide +kernel
theorem dX6_firstNext_44 : decode cX6_firstNext 44 = .ok (.iload 5, 2) := by decide +kernel
theorem dX6_firstNext_46 : decode cX6_firstNext 46 = .ok (.invokevirtual 56, 3) := by decide +kernel
theorem dX6_firstNext_49 : decode cX6_firstNext 49 = .ok (.aload_n 0, 1) := by decide +kernel
theorem dX6_firstNext_50 : decode cX6_firstNext 50 = .ok (.getfield 12, 3) := by decide +kernel
theorem dX6_firstNext_53 : decode cX6_firstNext 53 = .ok (.iload 5, 2) := by decide +kernel
theorem dX6_firstNext_55 : decode cX6_firstNext 55 = .ok (.iload_n 3, 1) := by decide +kernel
theorem dX6_firstNext_56 : decode cX6_firstNext 56 = .ok (.invokevirtual 47, 3) := by decide +kernel
theorem dX6_firstNext_59 : decode cX6_firstNext 59 = .ok (.iadd, 1) := by decide +kernel
theorem dX6_firstNext_60 : decode cX6_firstNext 60 = .ok (.iload 4, 2) := by decide +kernel
theorem dX6_firstNext_62 : decode cX6_firstNext 62 = .ok (.if_icmp .ne 6, 3) := by decide +kernel
theorem dX6_firstNext_65 : decode cX6_firstNext 65 = .ok (.iload 5, 2) := by decide +kernel
theorem dX6_firstNext_67 : decode cX6_firstNext 67 = .ok (.ireturn, 1) := by decide +kernel
theorem dX6_firstNext_68 : decode cX6_firstNext 68 = .ok (.iinc 5 1, 3) := by decide +kernel
theorem dX6_firstNext_71 : decode cX6_firstNext 71 = .ok (.goto (-48), 3) := by decide +kernel
theorem dX6_firstNext_74 : decode cX6_firstNext 74 = .ok (.iconst (-1), 1) := by decide +kernel
theorem dX6_firstNext_75 : decode cX6_firstNext 75 = .ok (.ireturn, 1) := by decide +kernel
theorem dX6_countBusy_0 : decode cX6_countBusy 0 = .ok (.aload_n 0, 1) := by decide +kernel
theorem dX6_countBusy_1 : decode cX6_countBusy 1 = .ok (.getfield 21, 3) := by decide +kernel
theorem dX6_countBusy_4 : decode cX6_countBusy 4 = .ok (.iconst 0, 1) := by decide +kernel
theorem dX6_countBusy_5 : decode cX6_countBusy 5 = .ok (.invokestatic 59, 3) := by decide +kernel
theorem dX6_countBusy_8 : decode cX6_countBusy 8 = .ok (.iconst 0, 1) := by decide +kernel
theorem dX6_countBusy_9 : decode cX6_countBusy 9 = .ok (.istore_n 2, 1) := by decide +kernel
theorem dX6_countBusy_10 : decode cX6_countBusy 10 = .ok (.iload_n 2, 1) := by decide +kernel
theorem dX6_countBusy_11 : decode cX6_countBusy 11 = .ok (.iload_n 1, 1) := by decide +kernel
theorem dX6_countBusy_12 : decode cX6_countBusy 12 = .ok (.if_icmp .ge 28, 3) := by decide +kernel
theorem dX6_countBusy_15 : decode cX6_countBusy 15 = .ok (.iconst 0, 1) := by decide +kernel
theorem dX6_countBusy_16 : decode cX6_countBusy 16 = .ok (.istore_n 3, 1) := by decide +kernel
theorem dX6_countBusy_17 : decode cX6_countBusy 17 = .ok (.iload_n 3, 1) := by decide +kernel
theorem dX6_countBusy_18 : decode cX6_countBusy 18 = .ok (.iload_n 1, 1) := by decide +kernel
theorem dX6_countBusy_19 : decode cX6_countBusy 19 = .ok (.if_icmp .ge 15, 3) := by decide +kernel
theorem dX6_countBusy_22 : decode cX6_countBusy 22 = .ok (.aload_n 0, 1) := by decide +kernel
theorem dX6_countBusy_23 : decode cX6_countBusy 23 = .ok (.iload_n 2, 1) := by decide +kernel
theorem dX6_countBusy_24 : decode cX6_countBusy 24 = .ok (.iload_n 3, 1) := by decide +kernel
theorem dX6_countBusy_25 : decode cX6_countBusy 25 = .ok (.invokevirtual 65, 3) := by decide +kernel
theorem dX6_countBusy_28 : decode cX6_countBusy 28 = .ok (.iinc 3 1, 3) := by decide +kernel
theorem dX6_countBusy_31 : decode cX6_countBusy 31 = .ok (.goto (-14), 3) := by decide +kernel
theorem dX6_countBusy_34 : decode cX6_countBusy 34 = .ok (.iinc 2 1, 3) := by decide +kernel
theorem dX6_countBusy_37 : decode cX6_countBusy 37 = .ok (.goto (-27), 3) := by decide +kernel
theorem dX6_countBusy_40 : decode cX6_countBusy 40 = .ok (.return_, 1) := by decide +kernel
theorem dX6_countBusyBetween_0 : decode cX6_countBusyBetween 0 = .ok (.aload_n 0, 1) := by decide +kernel
theorem dX6_countBusyBetween_1 : decode cX6_countBusyBetween 1 = .ok (.getfield 18, 3) := by decide +kernel
theorem dX6_countBusyBetween_4 : decode cX6_countBusyBetween 4 = .ok (.iload_n 1, 1) := by decide +kernel
theorem dX6_countBusyBetween_5 : decode cX6_countBusyBetween 5 = .ok (.iload_n 2, 1) := by decide +kernel
theorem dX6_countBusyBetween_6 : decode cX6_countBusyBetween 6 = .ok (.invokevirtual 47, 3) := by decide +kernel
theorem dX6_countBusyBetween_9 : decode cX6_countBusyBetween 9 = .ok (.istore_n 3, 1) := by decide +kernel
theorem dX6_countBusyBetween_10 : decode cX6_countBusyBetween 10 = .ok (.iconst 0, 1) := by decide +kernel
theorem dX6_countBusyBetween_11 : decode cX6_countBusyBetween 11 = .ok (.istore 4, 2) := by decide +kernel
theorem dX6_countBusyBetween_13 : decode cX6_countBusyBetween 13 = .ok (.iload 4, 2) := by decide +kernel
theorem dX6_countBusyBetween_15 : decode cX6_countBusyBetween 15 = .ok (.bipush 12, 2) := by decide +kernel
theorem dX6_countBusyBetween_17 : decode cX6_countBusyBetween 17 = .ok (.if_icmp .ge 39, 3) := by decide +kernel
theorem dX6_countBusyBetween_20 : decode cX6_countBusyBetween 20 = .ok (.iload_n 3, 1) := by decide +kernel
theorem dX6_countBusyBetween_21 : decode cX6_countBusyBetween 21 = .ok (.iconst (-1), 1) := by decide +kernel
theorem dX6_countBusyBetween_22 : decode cX6_countBusyBetween 22 = .ok (.if_icmp .eq 34, 3) := by decide +kernel
theorem dX6_countBusyBetween_25 : decode cX6_countBusyBetween 25 = .ok (.iload_n 3, 1) := by decide +kernel
theorem dX6_countBusyBetween_26 : decode cX6_countBusyBetween 26 = .ok (.iload_n 2, 1) := by decide +kernel
theorem dX6_countBusyBetween_27 : decode cX6_countBusyBetween 27 = .ok (.if_icmp .eq 29, 3) := by decide +kernel
theorem dX6_countBusyBetween_30 : decode cX6_countBusyBetween 30 = .ok (.aload_n 0, 1) := by decide +kernel
theorem dX6_countBusyBetween_31 : decode cX6_countBusyBetween 31 = .ok (.getfield 21, 3) := by decide +kernel
theorem dX6_countBusyBetween_34 : decode cX6_countBusyBetween 34 = .ok (.iload_n 3, 1) := by decide +kernel
theorem dX6_countBusyBetween_35 : decode cX6_countBusyBetween 35 = .ok (.dup2, 1) := by decide +kernel
theorem dX6_countBusyBetween_36 : decode cX6_countBusyBetween 36 = .ok (.iaload, 1) := by decide +kernel
theorem dX6_countBusyBetween_37 : decode cX6_countBusyBetween 37 = .ok (.iconst 1, 1) := by decide +kernel
theorem dX6_countBusyBetween_38 : decode cX6_countBusyBetween 38 = .ok (.iadd, 1) := by decide +kernel
theorem dX6_countBusyBetween_39 : decode cX6_countBusyBetween 39 = .ok (.iastore, 1) := by decide +kernel
theorem dX6_countBusyBetween_40 : decode cX6_countBusyBetween 40 = .ok (.aload_n 0, 1) := by decide +kernel
theorem dX6_countBusyBetween_41 : decode cX6_countBusyBetween 41 = .ok (.getfield 18, 3) := by decide +kernel
theorem dX6_countBusyBetween_44 : decode cX6_countBusyBetween 44 = .ok (.iload_n 3, 1) := by decide +kernel
theorem dX6_countBusyBetween_45 : decode cX6_countBusyBetween 45 = .ok (.iload_n 2, 1) := by decide +kernel
theorem dX6_countBusyBetween_46 : decode cX6_countBusyBetween 46 = .ok (.invokevirtual 47, 3) := by decide +kernel
theorem dX6_countBusyBetween_49 : decode cX6_countBusyBetween 49 = .ok (.istore_n 3, 1) := by decide +kernel
theorem dX6_countBusyBetween_50 : decode cX6_countBusyBetween 50 = .ok (.iinc 4 1, 3) := by decide +kernel
theorem dX6_countBusyBetween_53 : decode cX6_countBusyBetween 53 = .ok (.goto (-40), 3) := by decide +kernel
theorem dX6_countBusyBetween_56 : decode cX6_countBusyBetween 56 = .ok (.return_, 1) := by decide +kernel
theorem dX6_worth_0 : decode cX6_worth 0 = .ok (.aload_n 0, 1) := by decide +kernel
theorem dX6_worth_1 : decode cX6_worth 1 = .ok (.getfield 12, 3) := by decide +kernel
theorem dX6_worth_4 : decode cX6_worth 4 = .ok (.iload_n 1, 1) := by decide +kernel
theorem dX6_worth_5 : decode cX6_worth 5 = .ok (.iload_n 2, 1) := by decide +kernel
theorem dX6_worth_6 : decode cX6_worth 6 = .ok (.invokevirtual 47, 3) := by decide +kernel
theorem dX6_worth_9 : decode cX6_worth 9 = .ok (.istore_n 3, 1) := by decide +kernel
theorem dX6_worth_10 : decode cX6_worth 10 = .ok (.iload_n 3, 1) := by decide +kernel
theorem dX6_worth_11 : decode cX6_worth 11 = .ok (.ldc 51, 2) := by decide +kernel
theorem dX6_worth_13 : decode cX6_worth 13 = .ok (.if_icmp .lt 7, 3) := by decide +kernel
theorem dX6_worth_16 : decode cX6_worth 16 = .ok (.iconst (-1), 1) := by decide +kernel
theorem dX6_worth_17 : decode cX6_worth 17 = .ok (.goto 7, 3) := by decide +kernel
theorem dX6_worth_20 : decode cX6_worth 20 = .ok (.iload_n 3, 1) := by decide +kernel
theorem dX6_worth_21 : decode cX6_worth 21 = .ok (.bipush 64, 2) := by decide +kernel
theorem dX6_worth_23 : decode cX6_worth 23 = .ok (.idiv, 1) := by decide +kernel
theorem dX6_worth_24 : decode cX6_worth 24 = .ok (.ireturn, 1) := by decide +kernel
theorem dX6_roadOn_0 : decode cX6_roadOn 0 = .ok (.aload_n 0, 1) := by decide +kernel
theorem dX6_roadOn_1 : decode cX6_roadOn 1 = .ok (.getfield 12, 3) := by decide +kernel
theorem dX6_roadOn_4 : decode cX6_roadOn 4 = .ok (.iload_n 1, 1) := by decide +kernel
theorem dX6_roadOn_5 : decode cX6_roadOn 5 = .ok (.iload_n 2, 1) := by decide +kernel
theorem dX6_roadOn_6 : decode cX6_roadOn 6 = .ok (.invokevirtual 47, 3) := by decide +kernel
theorem dX6_roadOn_9 : decode cX6_roadOn 9 = .ok (.istore 4, 2) := by decide +kernel
theorem dX6_roadOn_11 : decode cX6_roadOn 11 = .ok (.iload 4, 2) := by decide +kernel
theorem dX6_roadOn_13 : decode cX6_roadOn 13 = .ok (.ldc 51, 2) := by decide +kernel
theorem dX6_roadOn_15 : decode cX6_roadOn 15 = .ok (.if_icmp .ge 16, 3) := by decide +kernel
theorem dX6_roadOn_18 : decode cX6_roadOn 18 = .ok (.iload_n 3, 1) := by decide +kernel
theorem dX6_roadOn_19 : decode cX6_roadOn 19 = .ok (.ifCond .lt 12, 3) := by decide +kernel
theorem dX6_roadOn_22 : decode cX6_roadOn 22 = .ok (.iload_n 3, 1) := by decide +kernel
theorem dX6_roadOn_23 : decode cX6_roadOn 23 = .ok (.iload 4, 2) := by decide +kernel
theorem dX6_roadOn_25 : decode cX6_roadOn 25 = .ok (.bipush 64, 2) := by decide +kernel
theorem dX6_roadOn_27 : decode cX6_roadOn 27 = .ok (.irem, 1) := by decide +kernel
theorem dX6_roadOn_28 : decode cX6_roadOn 28 = .ok (.if_icmp .le 5, 3) := by decide +kernel
theorem dX6_roadOn_31 : decode cX6_roadOn 31 = .ok (.iconst (-1), 1) := by decide +kernel
theorem dX6_roadOn_32 : decode cX6_roadOn 32 = .ok (.ireturn, 1) := by decide +kernel
theorem dX6_roadOn_33 : decode cX6_roadOn 33 = .ok (.iload_n 1, 1) := by decide +kernel
theorem dX6_roadOn_34 : decode cX6_roadOn 34 = .ok (.istore 5, 2) := by decide +kernel
theorem dX6_roadOn_36 : decode cX6_roadOn 36 = .ok (.iconst 0, 1) := by decide +kernel
theorem dX6_roadOn_37 : decode cX6_roadOn 37 = .ok (.istore 6, 2) := by decide +kernel
theorem dX6_roadOn_39 : decode cX6_roadOn 39 = .ok (.iload 6, 2) := by decide +kernel
theorem dX6_roadOn_41 : decode cX6_roadOn 41 = .ok (.iload_n 3, 1) := by decide +kernel
theorem dX6_roadOn_42 : decode cX6_roadOn 42 = .ok (.if_icmp .ge 27, 3) := by decide +kernel
theorem dX6_roadOn_45 : decode cX6_roadOn 45 = .ok (.iload 5, 2) := by decide +kernel
theorem dX6_roadOn_47 : decode cX6_roadOn 47 = .ok (.iconst (-1), 1) := by decide +kernel
theorem dX6_roadOn_48 : decode cX6_roadOn 48 = .ok (.if_icmp .eq 21, 3) := by decide +kernel
theorem dX6_roadOn_51 : decode cX6_roadOn 51 = .ok (.aload_n 0, 1) := by decide +kernel
theorem dX6_roadOn_52 : decode cX6_roadOn 52 = .ok (.getfield 18, 3) := by decide +kernel
theorem dX6_roadOn_55 : decode cX6_roadOn 55 = .ok (.iload 5, 2) := by decide +kernel
theorem dX6_roadOn_57 : decode cX6_roadOn 57 = .ok (.iload_n 2, 1) := by decide +kernel
theorem dX6_roadOn_58 : decode cX6_roadOn 58 = .ok (.invokevirtual 47, 3) := by decide +kernel
theorem dX6_roadOn_61 : decode cX6_roadOn 61 = .ok (.istore 5, 2) := by decide +kernel
theorem dX6_roadOn_63 : decode cX6_roadOn 63 = .ok (.iinc 6 1, 3) := by decide +kernel
theorem dX6_roadOn_66 : decode cX6_roadOn 66 = .ok (.goto (-27), 3) := by decide +kernel
theorem dX6_roadOn_69 : decode cX6_roadOn 69 = .ok (.iload 5, 2) := by decide +kernel
theorem dX6_roadOn_71 : decode cX6_roadOn 71 = .ok (.ireturn, 1) := by decide +kernel
theorem dX6_busiest_0 : decode cX6_busiest 0 = .ok (.iconst (-1), 1) := by decide +kernel
theorem dX6_busiest_1 : decode cX6_busiest 1 = .ok (.istore_n 2, 1) := by decide +kernel
theorem dX6_busiest_2 : decode cX6_busiest 2 = .ok (.iconst 0, 1) := by decide +kernel
theorem dX6_busiest_3 : decode cX6_busiest 3 = .ok (.istore_n 3, 1) := by decide +kernel
theorem dX6_busiest_4 : decode cX6_busiest 4 = .ok (.iload_n 3, 1) := by decide +kernel
theorem dX6_busiest_5 : decode cX6_busiest 5 = .ok (.iload_n 1, 1) := by decide +kernel
theorem dX6_busiest_6 : decode cX6_busiest 6 = .ok (.if_icmp .ge 31, 3) := by decide +kernel
theorem dX6_busiest_9 : decode cX6_busiest 9 = .ok (.iload_n 2, 1) := by decide +kernel
theorem dX6_busiest_10 : decode cX6_busiest 10 = .ok (.iconst (-1), 1) := by decide +kernel
theorem dX6_busiest_11 : decode cX6_busiest 11 = .ok (.if_icmp .eq 18, 3) := by decide +kernel
theorem dX6_busiest_14 : decode cX6_busiest 14 = .ok (.aload_n 0, 1) := by decide +kernel
theorem dX6_busiest_15 : decode cX6_busiest 15 = .ok (.getfield 21, 3) := by decide +kernel
theorem dX6_busiest_18 : decode cX6_busiest 18 = .ok (.iload_n 3, 1) := by decide +kernel
theorem dX6_busiest_19 : decode cX6_busiest 19 = .ok (.iaload, 1) := by decide +kernel
theorem dX6_busiest_20 : decode cX6_busiest 20 = .ok (.aload_n 0, 1) := by decide +kernel
theorem dX6_busiest_21 : decode cX6_busiest 21 = .ok (.getfield 21, 3) := by decide +kernel
theorem dX6_busiest_24 : decode cX6_busiest 24 = .ok (.iload_n 2, 1) := by decide +kernel
theorem dX6_busiest_25 : decode cX6_busiest 25 = .ok (.iaload, 1) := by decide +kernel
theorem dX6_busiest_26 : decode cX6_busiest 26 = .ok (.if_icmp .le 5, 3) := by decide +kernel
theorem dX6_busiest_29 : decode cX6_busiest 29 = .ok (.iload_n 3, 1) := by decide +kernel
theorem dX6_busiest_30 : decode cX6_busiest 30 = .ok (.istore_n 2, 1) := by decide +kernel
theorem dX6_busiest_31 : decode cX6_busiest 31 = .ok (.iinc 3 1, 3) := by decide +kernel
theorem dX6_busiest_34 : decode cX6_busiest 34 = .ok (.goto (-30), 3) := by decide +kernel
theorem dX6_busiest_37 : decode cX6_busiest 37 = .ok (.iload_n 2, 1) := by decide +kernel
theorem dX6_busiest_38 : decode cX6_busiest 38 = .ok (.ireturn, 1) := by decide +kernel
theorem dX6_mostBusy_0 : decode cX6_mostBusy 0 = .ok (.aload_n 0, 1) := by decide +kernel
theorem dX6_mostBusy_1 : decode cX6_mostBusy 1 = .ok (.iload_n 1, 1) := by decide +kernel
theorem dX6_mostBusy_2 : decode cX6_mostBusy 2 = .ok (.invokevirtual 69, 3) := by decide +kernel
theorem dX6_mostBusy_5 : decode cX6_mostBusy 5 = .ok (.istore_n 2, 1) := by decide +kernel
theorem dX6_mostBusy_6 : decode cX6_mostBusy 6 = .ok (.iload_n 2, 1) := by decide +kernel
theorem dX6_mostBusy_7 : decode cX6_mostBusy 7 = .ok (.iconst (-1), 1) := by decide +kernel
theorem dX6_mostBusy_8 : decode cX6_mostBusy 8 = .ok (.if_icmp .ne 7, 3) := by decide +kernel
theorem dX6_mostBusy_11 : decode cX6_mostBusy 11 = .ok (.iconst 0, 1) := by decide +kernel
theorem dX6_mostBusy_12 : decode cX6_mostBusy 12 = .ok (.goto 9, 3) := by decide +kernel
theorem dX6_mostBusy_15 : decode cX6_mostBusy 15 = .ok (.aload_n 0, 1) := by decide +kernel
theorem dX6_mostBusy_16 : decode cX6_mostBusy 16 = .ok (.getfield 21, 3) := by decide +kernel
theorem dX6_mostBusy_19 : decode cX6_mostBusy 19 = .ok (.iload_n 2, 1) := by decide +kernel
theorem dX6_mostBusy_20 : decode cX6_mostBusy 20 = .ok (.iaload, 1) := by decide +kernel
theorem dX6_mostBusy_21 : decode cX6_mostBusy 21 = .ok (.ireturn, 1) := by decide +kernel
theorem dX7_init_0 : decode cX7_init 0 = .ok (.aload_n 0, 1) := by decide +kernel
theorem dX7_init_1 : decode cX7_init 1 = .ok (.invokespecial 1, 3) := by decide +kernel
theorem dX7_init_4 : decode cX7_init 4 = .ok (.aload_n 0, 1) := by decide +kernel
theorem dX7_init_5 : decode cX7_init 5 = .ok (.new 7, 3) := by decide +kernel
theorem dX7_init_8 : decode cX7_init 8 = .ok (.dup, 1) := by decide +kernel
theorem dX7_init_9 : decode cX7_init 9 = .ok (.invokespecial 9, 3) := by decide +kernel
theorem dX7_init_12 : decode cX7_init 12 = .ok (.putfield 10, 3) := by decide +kernel
theorem dX7_init_15 : decode cX7_init 15 = .ok (.aload_n 0, 1) := by decide +kernel
theorem dX7_init_16 : decode cX7_init 16 = .ok (.new 16, 3) := by decide +kernel
theorem dX7_init_19 : decode cX7_init 19 = .ok (.dup, 1) := by decide +kernel
theorem dX7_init_20 : decode cX7_init 20 = .ok (.invokespecial 18, 3) := by decide +kernel
theorem dX7_init_23 : decode cX7_init 23 = .ok (.putfield 19, 3) := by decide +kernel
theorem dX7_init_26 : decode cX7_init 26 = .ok (.aload_n 0, 1) := by decide +kernel
theorem dX7_init_27 : decode cX7_init 27 = .ok (.new 23, 3) := by decide +kernel
theorem dX7_init_30 : decode cX7_init 30 = .ok (.dup, 1) := by decide +kernel
theorem dX7_init_31 : decode cX7_init 31 = .ok (.invokespecial 25, 3) := by decide +kernel
theorem dX7_init_34 : decode cX7_init 34 = .ok (.putfield 26, 3) := by decide +kernel
theorem dX7_init_37 : decode cX7_init 37 = .ok (.aload_n 0, 1) := by decide +kernel
theorem dX7_init_38 : decode cX7_init 38 = .ok (.new 30, 3) := by decide +kernel
theorem dX7_init_41 : decode cX7_init 41 = .ok (.dup, 1) := by decide +kernel
theorem dX7_init_42 : decode cX7_init 42 = .ok (.invokespecial 32, 3) := by decide +kernel
theorem dX7_init_45 : decode cX7_init 45 = .ok (.putfield 33, 3) := by decide +kernel
theorem dX7_init_48 : decode cX7_init 48 = .ok (.aload_n 0, 1) := by decide +kernel
theorem dX7_init_49 : decode cX7_init 49 = .ok (.new 37, 3) := by decide +kernel
theorem dX7_init_52 : decode cX7_init 52 = .ok (.dup, 1) := by decide +kernel
theorem dX7_init_53 : decode cX7_init 53 = .ok (.invokespecial 39, 3) := by decide +kernel
theorem dX7_init_56 : decode cX7_init 56 = .ok (.putfield 40, 3) := by decide +kernel
theorem dX7_init_59 : decode cX7_init 59 = .ok (.aload_n 0, 1) := by decide +kernel
theorem dX7_init_60 : decode cX7_init 60 = .ok (.new 44, 3) := by decide +kernel
theorem dX7_init_63 : decode cX7_init 63 = .ok (.dup, 1) := by decide +kernel
theorem dX7_init_64 : decode cX7_init 64 = .ok (.invokespecial 46, 3) := by decide +kernel
theorem dX7_init_67 : decode cX7_init 67 = .ok (.putfield 47, 3) := by decide +kernel
theorem dX7_init_70 : decode cX7_init 70 = .ok (.return_, 1) := by decide +kernel
theorem dX7_letter_0 : decode cX7_letter 0 = .ok (.iload_n 1, 1) := by decide +kernel
theorem dX7_letter_1 : decode cX7_letter 1 = .ok (.bipush 32, 2) := by decide +kernel
theorem dX7_letter_3 : decode cX7_letter 3 = .ok (.if_icmp .lt 9, 3) := by decide +kernel
theorem dX7_letter_6 : decode cX7_letter 6 = .ok (.iload_n 1, 1) := by decide +kernel
theorem dX7_letter_7 : decode cX7_letter 7 = .ok (.bipush 126, 2) := by decide +kernel
theorem dX7_letter_9 : decode cX7_letter 9 = .ok (.if_icmp .le 6, 3) := by decide +kernel
theorem dX7_letter_12 : decode cX7_letter 12 = .ok (.bipush (-102), 2) := by decide +kernel
theorem dX7_letter_14 : decode cX7_letter 14 = .ok (.ireturn, 1) := by decide +kernel
theorem dX7_letter_15 : decode cX7_letter 15 = .ok (.aload_n 0, 1) := by decide +kernel
theorem dX7_letter_16 : decode cX7_letter 16 = .ok (.getfield 10, 3) := by decide +kernel
theorem dX7_letter_19 : decode cX7_letter 19 = .ok (.getfield 51, 3) := by decide +kernel
theorem dX7_letter_22 : decode cX7_letter 22 = .ok (.bipush 60, 2) := by decide +kernel
theorem dX7_letter_24 : decode cX7_letter 24 = .ok (.if_icmp .lt 6, 3) := by decide +kernel
theorem dX7_letter_27 : decode cX7_letter 27 = .ok (.bipush (-104), 2) := by decide +kernel
theorem dX7_letter_29 : decode cX7_letter 29 = .ok (.ireturn, 1) := by decide +kernel
theorem dX7_letter_30 : decode cX7_letter 30 = .ok (.aload_n 0, 1) := by decide +kernel
theorem dX7_letter_31 : decode cX7_letter 31 = .ok (.getfield 10, 3) := by decide +kernel
theorem dX7_letter_34 : decode cX7_letter 34 = .ok (.iload_n 1, 1) := by decide +kernel
theorem dX7_letter_35 : decode cX7_letter 35 = .ok (.invokevirtual 55, 3) := by decide +kernel
theorem dX7_letter_38 : decode cX7_letter 38 = .ok (.aload_n 0, 1) := by decide +kernel
theorem dX7_letter_39 : decode cX7_letter 39 = .ok (.getfield 10, 3) := by decide +kernel
theorem dX7_letter_42 : decode cX7_letter 42 = .ok (.getfield 51, 3) := by decide +kernel
theorem dX7_letter_45 : decode cX7_letter 45 = .ok (.ireturn, 1) := by decide +kernel
theorem dX7_blank_0 : decode cX7_blank 0 = .ok (.aload_n 0, 1) := by decide +kernel
theorem dX7_blank_1 : decode cX7_blank 1 = .ok (.getfield 10, 3) := by decide +kernel
theorem dX7_blank_4 : decode cX7_blank 4 = .ok (.getfield 51, 3) := by decide +kernel
theorem dX7_blank_7 : decode cX7_blank 7 = .ok (.istore_n 1, 1) := by decide +kernel
theorem dX7_blank_8 : decode cX7_blank 8 = .ok (.aload_n 0, 1) := by decide +kernel
theorem dX7_blank_9 : decode cX7_blank 9 = .ok (.getfield 10, 3) := by decide +kernel
theorem dX7_blank_12 : decode cX7_blank 12 = .ok (.iconst 0, 1) := by decide +kernel
theorem dX7_blank_13 : decode cX7_blank 13 = .ok (.putfield 51, 3) := by decide +kernel
theorem dX7_blank_16 : decode cX7_blank 16 = .ok (.iload_n 1, 1) := by decide +kernel
theorem dX7_blank_17 : decode cX7_blank 17 = .ok (.ireturn, 1) := by decide +kernel
theorem dX7_fault_0 : decode cX7_fault 0 = .ok (.aload_n 0, 1) := by decide +kernel
theorem dX7_fault_1 : decode cX7_fault 1 = .ok (.getfield 10, 3) := by decide +kernel
theorem dX7_fault_4 : decode cX7_fault 4 = .ok (.invokevirtual 59, 3) := by decide +kernel
theorem dX7_fault_7 : decode cX7_fault 7 = .ok (.ireturn, 1) := by decide +kernel
theorem dX7_roads_0 : decode cX7_roads 0 = .ok (.aload_n 0, 1) := by decide +kernel
theorem dX7_roads_1 : decode cX7_roads 1 = .ok (.getfield 10, 3) := by decide +kernel
theorem dX7_roads_4 : decode cX7_roads 4 = .ok (.invokevirtual 63, 3) := by decide +kernel
theorem dX7_roads_7 : decode cX7_roads 7 = .ok (.ifCond .ne 6, 3) := by decide +kernel
theorem dX7_roads_10 : decode cX7_roads 10 = .ok (.bipush (-103), 2) := by decide +kernel
theorem dX7_roads_12 : decode cX7_roads 12 = .ok (.ireturn, 1) := by decide +kernel
theorem dX7_roads_13 : decode cX7_roads 13 = .ok (.aload_n 0, 1) := by decide +kernel
theorem dX7_roads_14 : decode cX7_roads 14 = .ok (.getfield 19, 3) := by decide +kernel
theorem dX7_roads_17 : decode cX7_roads 17 = .ok (.aload_n 0, 1) := by decide +kernel
theorem dX7_roads_18 : decode cX7_roads 18 = .ok (.getfield 10, 3) := by decide +kernel
theorem dX7_roads_21 : decode cX7_roads 21 = .ok (.invokevirtual 67, 3) := by decide +kernel
theorem dX7_roads_24 : decode cX7_roads 24 = .ok (.aload_n 0, 1) := by decide +kernel
theorem dX7_roads_25 : decode cX7_roads 25 = .ok (.getfield 10, 3) := by decide +kernel
theorem dX7_roads_28 : decode cX7_roads 28 = .ok (.iconst 0, 1) := by decide +kernel
theorem dX7_roads_29 : decode cX7_roads 29 = .ok (.putfield 51, 3) := by decide +kernel
theorem dX7_roads_32 : decode cX7_roads 32 = .ok (.aload_n 0, 1) := by decide +kernel
theorem dX7_roads_33 : decode cX7_roads 33 = .ok (.dup, 1) := by decide +kernel
theorem dX7_roads_34 : decode cX7_roads 34 = .ok (.getfield 71, 3) := by decide +kernel
theorem dX7_roads_37 : decode cX7_roads 37 = .ok (.iconst 1, 1) := by decide +kernel
theorem dX7_roads_38 : decode cX7_roads 38 = .ok (.iadd, 1) := by decide +kernel
theorem dX7_roads_39 : decode cX7_roads 39 = .ok (.putfield 71, 3) := by decide +kernel
theorem dX7_roads_42 : decode cX7_roads 42 = .ok (.aload_n 0, 1) := by decide +kernel
theorem dX7_roads_43 : decode cX7_roads 43 = .ok (.getfield 26, 3) := by decide +kernel
theorem dX7_roads_46 : decode cX7_roads 46 = .ok (.aload_n 0, 1) := by decide +kernel
theorem dX7_roads_47 : decode cX7_roads 47 = .ok (.getfield 19, 3) := by decide +kernel
theorem dX7_roads_50 : decode cX7_roads 50 = .ok (.invokevirtual 74, 3) := by decide +kernel
theorem dX7_roads_53 : decode cX7_roads 53 = .ok (.aload_n 0, 1) := by decide +kernel
theorem dX7_roads_54 : decode cX7_roads 54 = .ok (.invokevirtual 78, 3) := by decide +kernel
theorem dX7_roads_57 : decode cX7_roads 57 = .ok (.aload_n 0, 1) := by decide +kernel
theorem dX7_roads_58 : decode cX7_roads 58 = .ok (.getfield 19, 3) := by decide +kernel
theorem dX7_roads_61 : decode cX7_roads 61 = .ok (.getfield 81, 3) := by decide +kernel
theorem dX7_roads_64 : decode cX7_roads 64 = .ok (.ireturn, 1) := by decide +kernel
theorem dX7_stretch_0 : decode cX7_stretch 0 = .ok (.aload_n 0, 1) := by decide +kernel
theorem dX7_stretch_1 : decode cX7_stretch 1 = .ok (.getfield 19, 3) := by decide +kernel
theorem dX7_stretch_4 : decode cX7_stretch 4 = .ok (.iload_n 1, 1) := by decide +kernel
theorem dX7_stretch_5 : decode cX7_stretch 5 = .ok (.invokevirtual 84, 3) := by decide +kernel
theorem dX7_stretch_8 : decode cX7_stretch 8 = .ok (.ifCond .ne 6, 3) := by decide +kernel
theorem dX7_stretch_11 : decode cX7_stretch 11 = .ok (.bipush (-101), 2) := by decide +kernel
theorem dX7_stretch_13 : decode cX7_stretch 13 = .ok (.ireturn, 1) := by decide +kernel
theorem dX7_stretch_14 : decode cX7_stretch 14 = .ok (.iload_n 2, 1) := by decide +kernel
theorem dX7_stretch_15 : decode cX7_stretch 15 = .ok (.iconst 1, 1) := by decide +kernel
theorem dX7_stretch_16 : decode cX7_stretch 16 = .ok (.if_icmp .lt 9, 3) := by decide +kernel
theorem dX7_stretch_19 : decode cX7_stretch 19 = .ok (.iload_n 2, 1) := by decide +kernel
theorem dX7_stretch_20 : decode cX7_stretch 20 = .ok (.bipush 99, 2) := by decide +kernel
theorem dX7_stretch_22 : decode cX7_stretch 22 = .ok (.if_icmp .le 6, 3) := by decide +kernel
theorem dX7_stretch_25 : decode cX7_stretch 25 = .ok (.bipush (-102), 2) := by decide +kernel
theorem dX7_stretch_27 : decode cX7_stretch 27 = .ok (.ireturn, 1) := by decide +kernel
theorem dX7_stretch_28 : decode cX7_stretch 28 = .ok (.aload_n 0, 1) := by decide +kernel
theorem dX7_stretch_29 : decode cX7_stretch 29 = .ok (.getfield 19, 3) := by decide +kernel
theorem dX7_stretch_32 : decode cX7_stretch 32 = .ok (.getfield 88, 3) := by decide +kernel
theorem dX7_stretch_35 : decode cX7_stretch 35 = .ok (.iload_n 1, 1) := by decide +kernel
theorem dX7_stretch_36 : decode cX7_stretch 36 = .ok (.iaload, 1) := by decide +kernel
theorem dX7_stretch_37 : decode cX7_stretch 37 = .ok (.istore_n 3, 1) := by decide +kernel
theorem dX7_stretch_38 : decode cX7_stretch 38 = .ok (.aload_n 0, 1) := by decide +kernel
theorem dX7_stretch_39 : decode cX7_stretch 39 = .ok (.getfield 19, 3) := by decide +kernel
theorem dX7_stretch_42 : decode cX7_stretch 42 = .ok (.getfield 88, 3) := by decide +kernel
theorem dX7_stretch_45 : decode cX7_stretch 45 = .ok (.iload_n 1, 1) := by decide +kernel
theorem dX7_stretch_46 : decode cX7_stretch 46 = .ok (.iload_n 2, 1) := by decide +kernel
theorem dX7_stretch_47 : decode cX7_stretch 47 = .ok (.iastore, 1) := by decide +kernel
theorem dX7_stretch_48 : decode cX7_stretch 48 = .ok (.aload_n 0, 1) := by decide +kernel
theorem dX7_stretch_49 : decode cX7_stretch 49 = .ok (.invokevirtual 92, 3) := by decide +kernel
theorem dX7_stretch_52 : decode cX7_stretch 52 = .ok (.iload_n 3, 1) := by decide +kernel
theorem dX7_stretch_53 : decode cX7_stretch 53 = .ok (.ireturn, 1) := by decide +kernel
theorem dX7_turn_0 : decode cX7_turn 0 = .ok (.aload_n 0, 1) := by decide +kernel
theorem dX7_turn_1 : decode cX7_turn 1 = .ok (.getfield 19, 3) := by decide +kernel
theorem dX7_turn_4 : decode cX7_turn 4 = .ok (.iload_n 1, 1) := by decide +kernel
theorem dX7_turn_5 : decode cX7_turn 5 = .ok (.iload_n 2, 1) := by decide +kernel
theorem dX7_turn_6 : decode cX7_turn 6 = .ok (.invokevirtual 95, 3) := by decide +kernel
theorem dX7_turn_9 : decode cX7_turn 9 = .ok (.ifCond .ne 6, 3) := by decide +kernel
theorem dX7_turn_12 : decode cX7_turn 12 = .ok (.bipush (-101), 2) := by decide +kernel
theorem dX7_turn_14 : decode cX7_turn 14 = .ok (.ireturn, 1) := by decide +kernel
theorem dX7_turn_15 : decode cX7_turn 15 = .ok (.aload_n 0, 1) := by decide +kernel
theorem dX7_turn_16 : decode cX7_turn 16 = .ok (.getfield 19, 3) := by decide +kernel
theorem dX7_turn_19 : decode cX7_turn 19 = .ok (.iload_n 1, 1) := by decide +kernel
theorem dX7_turn_20 : decode cX7_turn 20 = .ok (.iload_n 2, 1) := by decide +kernel
theorem dX7_turn_21 : decode cX7_turn 21 = .ok (.invokevirtual 99, 3) := by decide +kernel
theorem dX7_turn_24 : decode cX7_turn 24 = .ok (.ifCond .ne 6, 3) := by decide +kernel
theorem dX7_turn_27 : decode cX7_turn 27 = .ok (.bipush (-103), 2) := by decide +kernel
theorem dX7_turn_29 : decode cX7_turn 29 = .ok (.ireturn, 1) := by decide +kernel
theorem dX7_turn_30 : decode cX7_turn 30 = .ok (.iload_n 3, 1) := by decide +kernel
theorem dX7_turn_31 : decode cX7_turn 31 = .ok (.bipush (-5), 2) := by decide +kernel
theorem dX7_turn_33 : decode cX7_turn 33 = .ok (.if_icmp .eq 16, 3) := by decide +kernel
theorem dX7_turn_36 : decode cX7_turn 36 = .ok (.iload_n 3, 1) := by decide +kernel
theorem dX7_turn_37 : decode cX7_turn 37 = .ok (.ifCond .lt 9, 3) := by decide +kernel
theorem dX7_turn_40 : decode cX7_turn 40 = .ok (.iload_n 3, 1) := by decide +kernel
theorem dX7_turn_41 : decode cX7_turn 41 = .ok (.bipush 50, 2) := by decide +kernel
theorem dX7_turn_43 : decode cX7_turn 43 = .ok (.if_icmp .le 6, 3) := by decide +kernel
theorem dX7_turn_46 : decode cX7_turn 46 = .ok (.bipush (-102), 2) := by decide +kernel
theorem dX7_turn_48 : decode cX7_turn 48 = .ok (.ireturn, 1) := by decide +kernel
theorem dX7_turn_49 : decode cX7_turn 49 = .ok (.aload_n 0, 1) := by decide +kernel
theorem dX7_turn_50 : decode cX7_turn 50 = .ok (.getfield 19, 3) := by decide +kernel
theorem dX7_turn_53 : decode cX7_turn 53 = .ok (.getfield 102, 3) := by decide +kernel
theorem dX7_turn_56 : decode cX7_turn 56 = .ok (.iload_n 1, 1) := by decide +kernel
theorem dX7_turn_57 : decode cX7_turn 57 = .ok (.iload_n 2, 1) := by decide +kernel
theorem dX7_turn_58 : decode cX7_turn 58 = .ok (.invokevirtual 106, 3) := by decide +kernel
theorem dX7_turn_61 : decode cX7_turn 61 = .ok (.istore 4, 2) := by decide +kernel
theorem dX7_turn_63 : decode cX7_turn 63 = .ok (.aload_n 0, 1) := by decide +kernel
theorem dX7_turn_64 : decode cX7_turn 64 = .ok (.getfield 19, 3) := by decide +kernel
theorem dX7_turn_67 : decode cX7_turn 67 = .ok (.getfield 102, 3) := by decide +kernel
theorem dX7_turn_70 : decode cX7_turn 70 = .ok (.iload_n 1, 1) := by decide +kernel
theorem dX7_turn_71 : decode cX7_turn 71 = .ok (.iload_n 2, 1) := by decide +kernel
theorem dX7_turn_72 : decode cX7_turn 72 = .ok (.iload_n 3, 1) := by decide +kernel
theorem dX7_turn_73 : decode cX7_turn 73 = .ok (.invokevirtual 112, 3) := by decide +kernel
theorem dX7_turn_76 : decode cX7_turn 76 = .ok (.aload_n 0, 1) := by decide +kernel
theorem dX7_turn_77 : decode cX7_turn 77 = .ok (.invokevirtual 92, 3) := by decide +kernel
theorem dX7_turn_80 : decode cX7_turn 80 = .ok (.iload 4, 2) := by decide +kernel
theorem dX7_turn_82 : decode cX7_turn 82 = .ok (.ireturn, 1) := by decide +kernel
theorem dX7_rank_0 : decode cX7_rank 0 = .ok (.aload_n 0, 1) := by decide +kernel
theorem dX7_rank_1 : decode cX7_rank 1 = .ok (.dup, 1) := by decide +kernel
theorem dX7_rank_2 : decode cX7_rank 2 = .ok (.getfield 116, 3) := by decide +kernel
theorem dX7_rank_5 : decode cX7_rank 5 = .ok (.iconst 1, 1) := by decide +kernel
theorem dX7_rank_6 : decode cX7_rank 6 = .ok (.iadd, 1) := by decide +kernel
theorem dX7_rank_7 : decode cX7_rank 7 = .ok (.putfield 116, 3) := by decide +kernel
theorem dX7_rank_10 : decode cX7_rank 10 = .ok (.aload_n 0, 1) := by decide +kernel
theorem dX7_rank_11 : decode cX7_rank 11 = .ok (.getfield 26, 3) := by decide +kernel
theorem dX7_rank_14 : decode cX7_rank 14 = .ok (.invokevirtual 119, 3) := by decide +kernel
theorem dX7_rank_17 : decode cX7_rank 17 = .ok (.aload_n 0, 1) := by decide +kernel
theorem dX7_rank_18 : decode cX7_rank 18 = .ok (.getfield 26, 3) := by decide +kernel
theorem dX7_rank_21 : decode cX7_rank 21 = .ok (.aload_n 0, 1) := by decide +kernel
theorem dX7_rank_22 : decode cX7_rank 22 = .ok (.getfield 19, 3) := by decide +kernel
theorem dX7_rank_25 : decode cX7_rank 25 = .ok (.invokevirtual 74, 3) := by decide +kernel
theorem dX7_rank_28 : decode cX7_rank 28 = .ok (.aload_n 0, 1) := by decide +kernel
theorem dX7_rank_29 : decode cX7_rank 29 = .ok (.invokevirtual 78, 3) := by decide +kernel
theorem dX7_rank_32 : decode cX7_rank 32 = .ok (.aload_n 0, 1) := by decide +kernel
theorem dX7_rank_33 : decode cX7_rank 33 = .ok (.getfield 26, 3) := by decide +kernel
theorem dX7_rank_36 : decode cX7_rank 36 = .ok (.invokevirtual 122, 3) := by decide +kernel
theorem dX7_rank_39 : decode cX7_rank 39 = .ok (.ireturn, 1) := by decide +kernel
theorem dX7_makeAnew_0 : decode cX7_makeAnew 0 = .ok (.aload_n 0, 1) := by decide +kernel
theorem dX7_makeAnew_1 : decode cX7_makeAnew 1 = .ok (.dup, 1) := by decide +kernel
theorem dX7_makeAnew_2 : decode cX7_makeAnew 2 = .ok (.getfield 125, 3) := by decide +kernel
theorem dX7_makeAnew_5 : decode cX7_makeAnew 5 = .ok (.iconst 1, 1) := by decide +kernel
theorem dX7_makeAnew_6 : decode cX7_makeAnew 6 = .ok (.iadd, 1) := by decide +kernel
theorem dX7_makeAnew_7 : decode cX7_makeAnew 7 = .ok (.putfield 125, 3) := by decide +kernel
theorem dX7_makeAnew_10 : decode cX7_makeAnew 10 = .ok (.aload_n 0, 1) := by decide +kernel
theorem dX7_makeAnew_11 : decode cX7_makeAnew 11 = .ok (.getfield 26, 3) := by decide +kernel
theorem dX7_makeAnew_14 : decode cX7_makeAnew 14 = .ok (.aload_n 0, 1) := by decide +kernel
theorem dX7_makeAnew_15 : decode cX7_makeAnew 15 = .ok (.getfield 19, 3) := by decide +kernel
theorem dX7_makeAnew_18 : decode cX7_makeAnew 18 = .ok (.invokevirtual 128, 3) := by decide +kernel
theorem dX7_makeAnew_21 : decode cX7_makeAnew 21 = .ok (.aload_n 0, 1) := by decide +kernel
theorem dX7_makeAnew_22 : decode cX7_makeAnew 22 = .ok (.invokevirtual 78, 3) := by decide +kernel
theorem dX7_makeAnew_25 : decode cX7_makeAnew 25 = .ok (.return_, 1) := by decide +kernel
theorem dX7_measureAll_0 : decode cX7_measureAll 0 = .ok (.aload_n 0, 1) := by decide +kernel
theorem dX7_measureAll_1 : decode cX7_measureAll 1 = .ok (.getfield 33, 3) := by decide +kernel
theorem dX7_measureAll_4 : decode cX7_measureAll 4 = .ok (.aload_n 0, 1) := by decide +kernel
theorem dX7_measureAll_5 : decode cX7_measureAll 5 = .ok (.getfield 26, 3) := by decide +kernel
theorem dX7_measureAll_8 : decode cX7_measureAll 8 = .ok (.invokevirtual 131, 3) := by decide +kernel
theorem dX7_measureAll_11 : decode cX7_measureAll 11 = .ok (.aload_n 0, 1) := by decide +kernel
theorem dX7_measureAll_12 : decode cX7_measureAll 12 = .ok (.getfield 40, 3) := by decide +kernel
theorem dX7_measureAll_15 : decode cX7_measureAll 15 = .ok (.aload_n 0, 1) := by decide +kernel
theorem dX7_measureAll_16 : decode cX7_measureAll 16 = .ok (.getfield 19, 3) := by decide +kernel
theorem dX7_measureAll_19 : decode cX7_measureAll 19 = .ok (.invokevirtual 135, 3) := by decide +kernel
theorem dX7_measureAll_22 : decode cX7_measureAll 22 = .ok (.aload_n 0, 1) := by decide +kernel
theorem dX7_measureAll_23 : decode cX7_measureAll 23 = .ok (.getfield 47, 3) := by decide +kernel
theorem dX7_measureAll_26 : decode cX7_measureAll 26 = .ok (.aload_n 0, 1) := by decide +kernel
theorem dX7_measureAll_27 : decode cX7_measureAll 27 = .ok (.getfield 19, 3) := by decide +kernel
theorem dX7_measureAll_30 : decode cX7_measureAll 30 = .ok (.aload_n 0, 1) := by decide +kernel
theorem dX7_measureAll_31 : decode cX7_measureAll 31 = .ok (.getfield 40, 3) := by decide +kernel
theorem dX7_measureAll_34 : decode cX7_measureAll 34 = .ok (.getfield 137, 3) := by decide +kernel
theorem dX7_measureAll_37 : decode cX7_measureAll 37 = .ok (.invokevirtual 140, 3) := by decide +kernel
theorem dX7_measureAll_40 : decode cX7_measureAll 40 = .ok (.return_, 1) := by decide +kernel
theorem dX7_road_0 : decode cX7_road 0 = .ok (.aload_n 0, 1) := by decide +kernel
theorem dX7_road_1 : decode cX7_road 1 = .ok (.getfield 19, 3) := by decide +kernel
theorem dX7_road_4 : decode cX7_road 4 = .ok (.iload_n 1, 1) := by decide +kernel
theorem dX7_road_5 : decode cX7_road 5 = .ok (.invokevirtual 84, 3) := by decide +kernel
theorem dX7_road_8 : decode cX7_road 8 = .ok (.ifCond .ne 6, 3) := by decide +kernel
theorem dX7_road_11 : decode cX7_road 11 = .ok (.bipush (-101), 2) := by decide +kernel
theorem dX7_road_13 : decode cX7_road 13 = .ok (.ireturn, 1) := by decide +kernel
theorem dX7_road_14 : decode cX7_road 14 = .ok (.iload_n 2, 1) := by decide +kernel
theorem dX7_road_15 : decode cX7_road 15 = .ok (.tableswitch 96 0 5 #[37, 47, 57, 67, 77, 86], 37) := by decide +kernel
theorem dX7_road_52 : decode cX7_road 52 = .ok (.aload_n 0, 1) := by decide +kernel
theorem dX7_road_53 : decode cX7_road 53 = .ok (.getfield 19, 3) := by decide +kernel
theorem dX7_road_56 : decode cX7_road 56 = .ok (.getfield 143, 3) := by decide +kernel
theorem dX7_road_59 : decode cX7_road 59 = .ok (.iload_n 1, 1) := by decide +kernel
theorem dX7_road_60 : decode cX7_road 60 = .ok (.iaload, 1) := by decide +kernel
theorem dX7_road_61 : decode cX7_road 61 = .ok (.ireturn, 1) := by decide +kernel
theorem dX7_road_62 : decode cX7_road 62 = .ok (.aload_n 0, 1) := by decide +kernel
theorem dX7_road_63 : decode cX7_road 63 = .ok (.getfield 19, 3) := by decide +kernel
theorem dX7_road_66 : decode cX7_road 66 = .ok (.getfield 146, 3) := by decide +kernel
theorem dX7_road_69 : decode cX7_road 69 = .ok (.iload_n 1, 1) := by decide +kernel
theorem dX7_road_70 : decode cX7_road 70 = .ok (.iaload, 1) := by decide +kernel
theorem dX7_road_71 : decode cX7_road 71 = .ok (.ireturn, 1) := by decide +kernel
theorem dX7_road_72 : decode cX7_road 72 = .ok (.aload_n 0, 1) := by decide +kernel
theorem dX7_road_73 : decode cX7_road 73 = .ok (.getfield 19, 3) := by decide +kernel
theorem dX7_road_76 : decode cX7_road 76 = .ok (.getfield 88, 3) := by decide +kernel
theorem dX7_road_79 : decode cX7_road 79 = .ok (.iload_n 1, 1) := by decide +kernel
theorem dX7_road_80 : decode cX7_road 80 = .ok (.iaload, 1) := by decide +kernel
theorem dX7_road_81 : decode cX7_road 81 = .ok (.ireturn, 1) := by decide +kernel
theorem dX7_road_82 : decode cX7_road 82 = .ok (.aload_n 0, 1) := by decide +kernel
theorem dX7_road_83 : decode cX7_road 83 = .ok (.getfield 26, 3) := by decide +kernel
theorem dX7_road_86 : decode cX7_road 86 = .ok (.getfield 149, 3) := by decide +kernel
theorem dX7_road_89 : decode cX7_road 89 = .ok (.iload_n 1, 1) := by decide +kernel
theorem dX7_road_90 : decode cX7_road 90 = .ok (.iaload, 1) := by decide +kernel
theorem dX7_road_91 : decode cX7_road 91 = .ok (.ireturn, 1) := by decide +kernel
theorem dX7_road_92 : decode cX7_road 92 = .ok (.aload_n 0, 1) := by decide +kernel
theorem dX7_road_93 : decode cX7_road 93 = .ok (.getfield 26, 3) := by decide +kernel
theorem dX7_road_96 : decode cX7_road 96 = .ok (.iload_n 1, 1) := by decide +kernel
theorem dX7_road_97 : decode cX7_road 97 = .ok (.invokevirtual 152, 3) := by decide +kernel
theorem dX7_road_100 : decode cX7_road 100 = .ok (.ireturn, 1) := by decide +kernel
theorem dX7_road_101 : decode cX7_road 101 = .ok (.aload_n 0, 1) := by decide +kernel
theorem dX7_road_102 : decode cX7_road 102 = .ok (.getfield 40, 3) := by decide +kernel
theorem dX7_road_105 : decode cX7_road 105 = .ok (.getfield 156, 3) := by decide +kernel
theorem dX7_road_108 : decode cX7_road 108 = .ok (.iload_n 1, 1) := by decide +kernel
theorem dX7_road_109 : decode cX7_road 109 = .ok (.iaload, 1) := by decide +kernel
theorem dX7_road_110 : decode cX7_road 110 = .ok (.ireturn, 1) := by decide +kernel
theorem dX7_road_111 : decode cX7_road 111 = .ok (.bipush (-102), 2) := by decide +kernel
theorem dX7_road_113 : decode cX7_road 113 = .ok (.ireturn, 1) := by decide +kernel
theorem dX7_cost_0 : decode cX7_cost 0 = .ok (.aload_n 0, 1) := by decide +kernel
theorem dX7_cost_1 : decode cX7_cost 1 = .ok (.getfield 19, 3) := by decide +kernel
theorem dX7_cost_4 : decode cX7_cost 4 = .ok (.iload_n 1, 1) := by decide +kernel
theorem dX7_cost_5 : decode cX7_cost 5 = .ok (.iload_n 2, 1) := by decide +kernel
theorem dX7_cost_6 : decode cX7_cost 6 = .ok (.invokevirtual 95, 3) := by decide +kernel
theorem dX7_cost_9 : decode cX7_cost 9 = .ok (.ifCond .ne 6, 3) := by decide +kernel
theorem dX7_cost_12 : decode cX7_cost 12 = .ok (.bipush (-101), 2) := by decide +kernel
theorem dX7_cost_14 : decode cX7_cost 14 = .ok (.ireturn, 1) := by decide +kernel
theorem dX7_cost_15 : decode cX7_cost 15 = .ok (.aload_n 0, 1) := by decide +kernel
theorem dX7_cost_16 : decode cX7_cost 16 = .ok (.getfield 19, 3) := by decide +kernel
theorem dX7_cost_19 : decode cX7_cost 19 = .ok (.iload_n 1, 1) := by decide +kernel
theorem dX7_cost_20 : decode cX7_cost 20 = .ok (.iload_n 2, 1) := by decide +kernel
theorem dX7_cost_21 : decode cX7_cost 21 = .ok (.invokevirtual 99, 3) := by decide +kernel
theorem dX7_cost_24 : decode cX7_cost 24 = .ok (.ifCond .eq 18, 3) := by decide +kernel
theorem dX7_cost_27 : decode cX7_cost 27 = .ok (.aload_n 0, 1) := by decide +kernel
theorem dX7_cost_28 : decode cX7_cost 28 = .ok (.getfield 19, 3) := by decide +kernel
theorem dX7_cost_31 : decode cX7_cost 31 = .ok (.getfield 102, 3) := by decide +kernel
theorem dX7_cost_34 : decode cX7_cost 34 = .ok (.iload_n 1, 1) := by decide +kernel
theorem dX7_cost_35 : decode cX7_cost 35 = .ok (.iload_n 2, 1) := by decide +kernel
theorem dX7_cost_36 : decode cX7_cost 36 = .ok (.invokevirtual 106, 3) := by decide +kernel
theorem dX7_cost_39 : decode cX7_cost 39 = .ok (.goto 5, 3) := by decide +kernel
theorem dX7_cost_42 : decode cX7_cost 42 = .ok (.bipush (-103), 2) := by decide +kernel
theorem dX7_cost_44 : decode cX7_cost 44 = .ok (.ireturn, 1) := by decide +kernel
theorem dX7_order_0 : decode cX7_order 0 = .ok (.aload_n 0, 1) := by decide +kernel
theorem dX7_order_1 : decode cX7_order 1 = .ok (.getfield 19, 3) := by decide +kernel
theorem dX7_order_4 : decode cX7_order 4 = .ok (.iload_n 1, 1) := by decide +kernel
theorem dX7_order_5 : decode cX7_order 5 = .ok (.invokevirtual 84, 3) := by decide +kernel
theorem dX7_order_8 : decode cX7_order 8 = .ok (.ifCond .eq 15, 3) := by decide +kernel
theorem dX7_order_11 : decode cX7_order 11 = .ok (.aload_n 0, 1) := by decide +kernel
theorem dX7_order_12 : decode cX7_order 12 = .ok (.getfield 26, 3) := by decide +kernel
theorem dX7_order_15 : decode cX7_order 15 = .ok (.getfield 159, 3) := by decide +kernel
theorem dX7_order_18 : decode cX7_order 18 = .ok (.iload_n 1, 1) := by decide +kernel
theorem dX7_order_19 : decode cX7_order 19 = .ok (.iaload, 1) := by decide +kernel
theorem dX7_order_20 : decode cX7_order 20 = .ok (.goto 5, 3) := by decide +kernel
theorem dX7_order_23 : decode cX7_order 23 = .ok (.bipush (-101), 2) := by decide +kernel
theorem dX7_order_25 : decode cX7_order 25 = .ok (.ireturn, 1) := by decide +kernel
theorem dX7_least_0 : decode cX7_least 0 = .ok (.aload_n 0, 1) := by decide +kernel
theorem dX7_least_1 : decode cX7_least 1 = .ok (.getfield 19, 3) := by decide +kernel
theorem dX7_least_4 : decode cX7_least 4 = .ok (.iload_n 1, 1) := by decide +kernel
theorem dX7_least_5 : decode cX7_least 5 = .ok (.iload_n 2, 1) := by decide +kernel
theorem dX7_least_6 : decode cX7_least 6 = .ok (.invokevirtual 95, 3) := by decide +kernel
theorem dX7_least_9 : decode cX7_least 9 = .ok (.ifCond .eq 15, 3) := by decide +kernel
theorem dX7_least_12 : decode cX7_least 12 = .ok (.aload_n 0, 1) := by decide +kernel
theorem dX7_least_13 : decode cX7_least 13 = .ok (.getfield 40, 3) := by decide +kernel
theorem dX7_least_16 : decode cX7_least 16 = .ok (.iload_n 1, 1) := by decide +kernel
theorem dX7_least_17 : decode cX7_least 17 = .ok (.iload_n 2, 1) := by decide +kernel
theorem dX7_least_18 : decode cX7_least 18 = .ok (.invokevirtual 162, 3) := by decide +kernel
theorem dX7_least_21 : decode cX7_least 21 = .ok (.goto 5, 3) := by decide +kernel
theorem dX7_least_24 : decode cX7_least 24 = .ok (.bipush (-101), 2) := by decide +kernel
theorem dX7_least_26 : decode cX7_least 26 = .ok (.ireturn, 1) := by decide +kernel
theorem dX7_way_0 : decode cX7_way 0 = .ok (.aload_n 0, 1) := by decide +kernel
theorem dX7_way_1 : decode cX7_way 1 = .ok (.getfield 19, 3) := by decide +kernel
theorem dX7_way_4 : decode cX7_way 4 = .ok (.iload_n 1, 1) := by decide +kernel
theorem dX7_way_5 : decode cX7_way 5 = .ok (.iload_n 2, 1) := by decide +kernel
theorem dX7_way_6 : decode cX7_way 6 = .ok (.invokevirtual 95, 3) := by decide +kernel
theorem dX7_way_9 : decode cX7_way 9 = .ok (.ifCond .eq 16, 3) := by decide +kernel
theorem dX7_way_12 : decode cX7_way 12 = .ok (.aload_n 0, 1) := by decide +kernel
theorem dX7_way_13 : decode cX7_way 13 = .ok (.getfield 40, 3) := by decide +kernel
theorem dX7_way_16 : decode cX7_way 16 = .ok (.iload_n 1, 1) := by decide +kernel
theorem dX7_way_17 : decode cX7_way 17 = .ok (.iload_n 2, 1) := by decide +kernel
theorem dX7_way_18 : decode cX7_way 18 = .ok (.iload_n 3, 1) := by decide +kernel
theorem dX7_way_19 : decode cX7_way 19 = .ok (.invokevirtual 165, 3) := by decide +kernel
theorem dX7_way_22 : decode cX7_way 22 = .ok (.goto 5, 3) := by decide +kernel
theorem dX7_way_25 : decode cX7_way 25 = .ok (.bipush (-101), 2) := by decide +kernel
theorem dX7_way_27 : decode cX7_way 27 = .ok (.ireturn, 1) := by decide +kernel
theorem dX7_arc_0 : decode cX7_arc 0 = .ok (.aload_n 0, 1) := by decide +kernel
theorem dX7_arc_1 : decode cX7_arc 1 = .ok (.getfield 19, 3) := by decide +kernel
theorem dX7_arc_4 : decode cX7_arc 4 = .ok (.iload_n 1, 1) := by decide +kernel
theorem dX7_arc_5 : decode cX7_arc 5 = .ok (.iload_n 2, 1) := by decide +kernel
theorem dX7_arc_6 : decode cX7_arc 6 = .ok (.invokevirtual 95, 3) := by decide +kernel
theorem dX7_arc_9 : decode cX7_arc 9 = .ok (.ifCond .ne 6, 3) := by decide +kernel
theorem dX7_arc_12 : decode cX7_arc 12 = .ok (.bipush (-101), 2) := by decide +kernel
theorem dX7_arc_14 : decode cX7_arc 14 = .ok (.ireturn, 1) := by decide +kernel
theorem dX7_arc_15 : decode cX7_arc 15 = .ok (.iload_n 3, 1) := by decide +kernel
theorem dX7_arc_16 : decode cX7_arc 16 = .ok (.ifCond .lt 8, 3) := by decide +kernel
theorem dX7_arc_19 : decode cX7_arc 19 = .ok (.iload_n 3, 1) := by decide +kernel
theorem dX7_arc_20 : decode cX7_arc 20 = .ok (.iconst 3, 1) := by decide +kernel
theorem dX7_arc_21 : decode cX7_arc 21 = .ok (.if_icmp .le 6, 3) := by decide +kernel
theorem dX7_arc_24 : decode cX7_arc 24 = .ok (.bipush (-102), 2) := by decide +kernel
theorem dX7_arc_26 : decode cX7_arc 26 = .ok (.ireturn, 1) := by decide +kernel
theorem dX7_arc_27 : decode cX7_arc 27 = .ok (.aload_n 0, 1) := by decide +kernel
theorem dX7_arc_28 : decode cX7_arc 28 = .ok (.getfield 26, 3) := by decide +kernel
theorem dX7_arc_31 : decode cX7_arc 31 = .ok (.iload_n 1, 1) := by decide +kernel
theorem dX7_arc_32 : decode cX7_arc 32 = .ok (.iload_n 2, 1) := by decide +kernel
theorem dX7_arc_33 : decode cX7_arc 33 = .ok (.invokevirtual 169, 3) := by decide +kernel
theorem dX7_arc_36 : decode cX7_arc 36 = .ok (.ifCond .ne 5, 3) := by decide +kernel
theorem dX7_arc_39 : decode cX7_arc 39 = .ok (.iconst (-1), 1) := by decide +kernel
theorem dX7_arc_40 : decode cX7_arc 40 = .ok (.ireturn, 1) := by decide +kernel
theorem dX7_arc_41 : decode cX7_arc 41 = .ok (.iload_n 3, 1) := by decide +kernel
theorem dX7_arc_42 : decode cX7_arc 42 = .ok (.tableswitch 70 0 2 #[26, 39, 52], 26) := by decide +kernel
theorem dX7_arc_68 : decode cX7_arc 68 = .ok (.aload_n 0, 1) := by decide +kernel
theorem dX7_arc_69 : decode cX7_arc 69 = .ok (.getfield 26, 3) := by decide +kernel
theorem dX7_arc_72 : decode cX7_arc 72 = .ok (.getfield 172, 3) := by decide +kernel
theorem dX7_arc_75 : decode cX7_arc 75 = .ok (.iload_n 1, 1) := by decide +kernel
theorem dX7_arc_76 : decode cX7_arc 76 = .ok (.iload_n 2, 1) := by decide +kernel
theorem dX7_arc_77 : decode cX7_arc 77 = .ok (.invokevirtual 106, 3) := by decide +kernel
theorem dX7_arc_80 : decode cX7_arc 80 = .ok (.ireturn, 1) := by decide +kernel
theorem dX7_arc_81 : decode cX7_arc 81 = .ok (.aload_n 0, 1) := by decide +kernel
theorem dX7_arc_82 : decode cX7_arc 82 = .ok (.getfield 26, 3) := by decide +kernel
theorem dX7_arc_85 : decode cX7_arc 85 = .ok (.getfield 175, 3) := by decide +kernel
theorem dX7_arc_88 : decode cX7_arc 88 = .ok (.iload_n 1, 1) := by decide +kernel
theorem dX7_arc_89 : decode cX7_arc 89 = .ok (.iload_n 2, 1) := by decide +kernel
theorem dX7_arc_90 : decode cX7_arc 90 = .ok (.invokevirtual 106, 3) := by decide +kernel
theorem dX7_arc_93 : decode cX7_arc 93 = .ok (.ireturn, 1) := by decide +kernel
theorem dX7_arc_94 : decode cX7_arc 94 = .ok (.aload_n 0, 1) := by decide +kernel
theorem dX7_arc_95 : decode cX7_arc 95 = .ok (.getfield 26, 3) := by decide +kernel
theorem dX7_arc_98 : decode cX7_arc 98 = .ok (.iload_n 1, 1) := by decide +kernel
theorem dX7_arc_99 : decode cX7_arc 99 = .ok (.iload_n 2, 1) := by decide +kernel
theorem dX7_arc_100 : decode cX7_arc 100 = .ok (.invokevirtual 178, 3) := by decide +kernel
theorem dX7_arc_103 : decode cX7_arc 103 = .ok (.ifCond .eq 7, 3) := by decide +kernel
theorem dX7_arc_106 : decode cX7_arc 106 = .ok (.iconst 1, 1) := by decide +kernel
theorem dX7_arc_107 : decode cX7_arc 107 = .ok (.goto 4, 3) := by decide +kernel
theorem dX7_arc_110 : decode cX7_arc 110 = .ok (.iconst 0, 1) := by decide +kernel
theorem dX7_arc_111 : decode cX7_arc 111 = .ok (.ireturn, 1) := by decide +kernel
theorem dX7_arc_112 : decode cX7_arc 112 = .ok (.aload_n 0, 1) := by decide +kernel
theorem dX7_arc_113 : decode cX7_arc 113 = .ok (.getfield 26, 3) := by decide +kernel
theorem dX7_arc_116 : decode cX7_arc 116 = .ok (.iload_n 1, 1) := by decide +kernel
theorem dX7_arc_117 : decode cX7_arc 117 = .ok (.iload_n 2, 1) := by decide +kernel
theorem dX7_arc_118 : decode cX7_arc 118 = .ok (.invokevirtual 181, 3) := by decide +kernel
theorem dX7_arc_121 : decode cX7_arc 121 = .ok (.ireturn, 1) := by decide +kernel
theorem dX7_unpacked_0 : decode cX7_unpacked 0 = .ok (.aload_n 0, 1) := by decide +kernel
theorem dX7_unpacked_1 : decode cX7_unpacked 1 = .ok (.getfield 19, 3) := by decide +kernel
theorem dX7_unpacked_4 : decode cX7_unpacked 4 = .ok (.iload_n 1, 1) := by decide +kernel
theorem dX7_unpacked_5 : decode cX7_unpacked 5 = .ok (.iload_n 2, 1) := by decide +kernel
theorem dX7_unpacked_6 : decode cX7_unpacked 6 = .ok (.invokevirtual 95, 3) := by decide +kernel
theorem dX7_unpacked_9 : decode cX7_unpacked 9 = .ok (.ifCond .ne 6, 3) := by decide +kernel
theorem dX7_unpacked_12 : decode cX7_unpacked 12 = .ok (.bipush (-101), 2) := by decide +kernel
theorem dX7_unpacked_14 : decode cX7_unpacked 14 = .ok (.ireturn, 1) := by decide +kernel
theorem dX7_unpacked_15 : decode cX7_unpacked 15 = .ok (.aload_n 0, 1) := by decide +kernel
theorem dX7_unpacked_16 : decode cX7_unpacked 16 = .ok (.getfield 26, 3) := by decide +kernel
theorem dX7_unpacked_19 : decode cX7_unpacked 19 = .ok (.iload_n 1, 1) := by decide +kernel
theorem dX7_unpacked_20 : decode cX7_unpacked 20 = .ok (.iload_n 2, 1) := by decide +kernel
theorem dX7_unpacked_21 : decode cX7_unpacked 21 = .ok (.invokevirtual 169, 3) := by decide +kernel
theorem dX7_unpacked_24 : decode cX7_unpacked 24 = .ok (.ifCond .ne 5, 3) := by decide +kernel
theorem dX7_unpacked_27 : decode cX7_unpacked 27 = .ok (.iconst (-1), 1) := by decide +kernel
theorem dX7_unpacked_28 : decode cX7_unpacked 28 = .ok (.ireturn, 1) := by decide +kernel
theorem dX7_unpacked_29 : decode cX7_unpacked 29 = .ok (.aload_n 0, 1) := by decide +kernel
theorem dX7_unpacked_30 : decode cX7_unpacked 30 = .ok (.getfield 26, 3) := by decide +kernel
theorem dX7_unpacked_33 : decode cX7_unpacked 33 = .ok (.iload_n 1, 1) := by decide +kernel
theorem dX7_unpacked_34 : decode cX7_unpacked 34 = .ok (.iload_n 2, 1) := by decide +kernel
theorem dX7_unpacked_35 : decode cX7_unpacked 35 = .ok (.invokevirtual 181, 3) := by decide +kernel
theorem dX7_unpacked_38 : decode cX7_unpacked 38 = .ok (.istore 4, 2) := by decide +kernel
theorem dX7_unpacked_40 : decode cX7_unpacked 40 = .ok (.iload_n 3, 1) := by decide +kernel
theorem dX7_unpacked_41 : decode cX7_unpacked 41 = .ok (.ifCond .lt 21, 3) := by decide +kernel
theorem dX7_unpacked_44 : decode cX7_unpacked 44 = .ok (.iload_n 3, 1) := by decide +kernel
theorem dX7_unpacked_45 : decode cX7_unpacked 45 = .ok (.iload 4, 2) := by decide +kernel
theorem dX7_unpacked_47 : decode cX7_unpacked 47 = .ok (.if_icmp .ge 15, 3) := by decide +kernel
theorem dX7_unpacked_50 : decode cX7_unpacked 50 = .ok (.aload_n 0, 1) := by decide +kernel
theorem dX7_unpacked_51 : decode cX7_unpacked 51 = .ok (.getfield 26, 3) := by decide +kernel
theorem dX7_unpacked_54 : decode cX7_unpacked 54 = .ok (.getfield 184, 3) := by decide +kernel
theorem dX7_unpacked_57 : decode cX7_unpacked 57 = .ok (.iload_n 3, 1) := by decide +kernel
theorem dX7_unpacked_58 : decode cX7_unpacked 58 = .ok (.iaload, 1) := by decide +kernel
theorem dX7_unpacked_59 : decode cX7_unpacked 59 = .ok (.goto 4, 3) := by decide +kernel
theorem dX7_unpacked_62 : decode cX7_unpacked 62 = .ok (.iconst (-1), 1) := by decide +kernel
theorem dX7_unpacked_63 : decode cX7_unpacked 63 = .ok (.ireturn, 1) := by decide +kernel
theorem dX7_up_0 : decode cX7_up 0 = .ok (.aload_n 0, 1) := by decide +kernel
theorem dX7_up_1 : decode cX7_up 1 = .ok (.getfield 19, 3) := by decide +kernel
theorem dX7_up_4 : decode cX7_up 4 = .ok (.iload_n 1, 1) := by decide +kernel
theorem dX7_up_5 : decode cX7_up 5 = .ok (.iload_n 2, 1) := by decide +kernel
theorem dX7_up_6 : decode cX7_up 6 = .ok (.invokevirtual 95, 3) := by decide +kernel
theorem dX7_up_9 : decode cX7_up 9 = .ok (.ifCond .eq 21, 3) := by decide +kernel
theorem dX7_up_12 : decode cX7_up 12 = .ok (.aload_n 0, 1) := by decide +kernel
theorem dX7_up_13 : decode cX7_up 13 = .ok (.getfield 33, 3) := by decide +kernel
theorem dX7_up_16 : decode cX7_up 16 = .ok (.getfield 187, 3) := by decide +kernel
theorem dX7_up_19 : decode cX7_up 19 = .ok (.iload_n 1, 1) := by decide +kernel
theorem dX7_up_20 : decode cX7_up 20 = .ok (.iload_n 2, 1) := by decide +kernel
theorem dX7_up_21 : decode cX7_up 21 = .ok (.invokevirtual 106, 3) := by decide +kernel
theorem dX7_up_24 : decode cX7_up 24 = .ok (.invokestatic 190, 3) := by decide +kernel
theorem dX7_up_27 : decode cX7_up 27 = .ok (.goto 5, 3) := by decide +kernel
theorem dX7_up_30 : decode cX7_up 30 = .ok (.bipush (-101), 2) := by decide +kernel
theorem dX7_up_32 : decode cX7_up 32 = .ok (.ireturn, 1) := by decide +kernel
theorem dX7_down_0 : decode cX7_down 0 = .ok (.aload_n 0, 1) := by decide +kernel
theorem dX7_down_1 : decode cX7_down 1 = .ok (.getfield 19, 3) := by decide +kernel
theorem dX7_down_4 : decode cX7_down 4 = .ok (.iload_n 1, 1) := by decide +kernel
theorem dX7_down_5 : decode cX7_down 5 = .ok (.iload_n 2, 1) := by decide +kernel
theorem dX7_down_6 : decode cX7_down 6 = .ok (.invokevirtual 95, 3) := by decide +kernel
theorem dX7_down_9 : decode cX7_down 9 = .ok (.ifCond .eq 21, 3) := by decide +kernel
theorem dX7_down_12 : decode cX7_down 12 = .ok (.aload_n 0, 1) := by decide +kernel
theorem dX7_down_13 : decode cX7_down 13 = .ok (.getfield 33, 3) := by decide +kernel
theorem dX7_down_16 : decode cX7_down 16 = .ok (.getfield 193, 3) := by decide +kernel
theorem dX7_down_19 : decode cX7_down 19 = .ok (.iload_n 1, 1) := by decide +kernel
theorem dX7_down_20 : decode cX7_down 20 = .ok (.iload_n 2, 1) := by decide +kernel
theorem dX7_down_21 : decode cX7_down 21 = .ok (.invokevirtual 106, 3) := by decide +kernel
theorem dX7_down_24 : decode cX7_down 24 = .ok (.invokestatic 190, 3) := by decide +kernel
theorem dX7_down_27 : decode cX7_down 27 = .ok (.goto 5, 3) := by decide +kernel
theorem dX7_down_30 : decode cX7_down 30 = .ok (.bipush (-101), 2) := by decide +kernel
theorem dX7_down_32 : decode cX7_down 32 = .ok (.ireturn, 1) := by decide +kernel
theorem dX7_meet_0 : decode cX7_meet 0 = .ok (.aload_n 0, 1) := by decide +kernel
theorem dX7_meet_1 : decode cX7_meet 1 = .ok (.getfield 19, 3) := by decide +kernel
theorem dX7_meet_4 : decode cX7_meet 4 = .ok (.iload_n 1, 1) := by decide +kernel
theorem dX7_meet_5 : decode cX7_meet 5 = .ok (.iload_n 2, 1) := by decide +kernel
theorem dX7_meet_6 : decode cX7_meet 6 = .ok (.invokevirtual 95, 3) := by decide +kernel
theorem dX7_meet_9 : decode cX7_meet 9 = .ok (.ifCond .eq 22, 3) := by decide +kernel
theorem dX7_meet_12 : decode cX7_meet 12 = .ok (.aload_n 0, 1) := by decide +kernel
theorem dX7_meet_13 : decode cX7_meet 13 = .ok (.getfield 33, 3) := by decide +kernel
theorem dX7_meet_16 : decode cX7_meet 16 = .ok (.iload_n 1, 1) := by decide +kernel
theorem dX7_meet_17 : decode cX7_meet 17 = .ok (.iload_n 2, 1) := by decide +kernel
theorem dX7_meet_18 : decode cX7_meet 18 = .ok (.aload_n 0, 1) := by decide +kernel
theorem dX7_meet_19 : decode cX7_meet 19 = .ok (.getfield 19, 3) := by decide +kernel
theorem dX7_meet_22 : decode cX7_meet 22 = .ok (.getfield 81, 3) := by decide +kernel
theorem dX7_meet_25 : decode cX7_meet 25 = .ok (.invokevirtual 196, 3) := by decide +kernel
theorem dX7_meet_28 : decode cX7_meet 28 = .ok (.goto 5, 3) := by decide +kernel
theorem dX7_meet_31 : decode cX7_meet 31 = .ok (.bipush (-101), 2) := by decide +kernel
theorem dX7_meet_33 : decode cX7_meet 33 = .ok (.ireturn, 1) := by decide +kernel
theorem dX7_route_0 : decode cX7_route 0 = .ok (.iload_n 1, 1) := by decide +kernel
theorem dX7_route_1 : decode cX7_route 1 = .ok (.invokestatic 199, 3) := by decide +kernel
theorem dX7_route_4 : decode cX7_route 4 = .ok (.ifCond .eq 10, 3) := by decide +kernel
theorem dX7_route_7 : decode cX7_route 7 = .ok (.iload_n 2, 1) := by decide +kernel
theorem dX7_route_8 : decode cX7_route 8 = .ok (.invokestatic 199, 3) := by decide +kernel
theorem dX7_route_11 : decode cX7_route 11 = .ok (.ifCond .ne 6, 3) := by decide +kernel
theorem dX7_route_14 : decode cX7_route 14 = .ok (.bipush (-101), 2) := by decide +kernel
theorem dX7_route_16 : decode cX7_route 16 = .ok (.ireturn, 1) := by decide +kernel
theorem dX7_route_17 : decode cX7_route 17 = .ok (.iload_n 1, 1) := by decide +kernel
theorem dX7_route_18 : decode cX7_route 18 = .ok (.iload_n 2, 1) := by decide +kernel
theorem dX7_route_19 : decode cX7_route 19 = .ok (.if_icmp .ne 8, 3) := by decide +kernel
theorem dX7_route_22 : decode cX7_route 22 = .ok (.bipush (-103), 2) := by decide +kernel
theorem dX7_route_24 : decode cX7_route 24 = .ok (.goto 20, 3) := by decide +kernel
theorem dX7_route_27 : decode cX7_route 27 = .ok (.aload_n 0, 1) := by decide +kernel
theorem dX7_route_28 : decode cX7_route 28 = .ok (.getfield 47, 3) := by decide +kernel
theorem dX7_route_31 : decode cX7_route 31 = .ok (.getfield 202, 3) := by decide +kernel
theorem dX7_route_34 : decode cX7_route 34 = .ok (.iload_n 1, 1) := by decide +kernel
theorem dX7_route_35 : decode cX7_route 35 = .ok (.bipush 8, 2) := by decide +kernel
theorem dX7_route_37 : decode cX7_route 37 = .ok (.imul, 1) := by decide +kernel
theorem dX7_route_38 : decode cX7_route 38 = .ok (.iload_n 2, 1) := by decide +kernel
theorem dX7_route_39 : decode cX7_route 39 = .ok (.iadd, 1) := by decide +kernel
theorem dX7_route_40 : decode cX7_route 40 = .ok (.iaload, 1) := by decide +kernel
theorem dX7_route_41 : decode cX7_route 41 = .ok (.invokestatic 190, 3) := by decide +kernel
theorem dX7_route_44 : decode cX7_route 44 = .ok (.ireturn, 1) := by decide +kernel
theorem dX7_loss_0 : decode cX7_loss 0 = .ok (.aload_n 0, 1) := by decide +kernel
theorem dX7_loss_1 : decode cX7_loss 1 = .ok (.getfield 19, 3) := by decide +kernel
theorem dX7_loss_4 : decode cX7_loss 4 = .ok (.iload_n 1, 1) := by decide +kernel
theorem dX7_loss_5 : decode cX7_loss 5 = .ok (.invokevirtual 84, 3) := by decide +kernel
theorem dX7_loss_8 : decode cX7_loss 8 = .ok (.ifCond .ne 6, 3) := by decide +kernel
theorem dX7_loss_11 : decode cX7_loss 11 = .ok (.bipush (-101), 2) := by decide +kernel
theorem dX7_loss_13 : decode cX7_loss 13 = .ok (.ireturn, 1) := by decide +kernel
theorem dX7_loss_14 : decode cX7_loss 14 = .ok (.iload_n 2, 1) := by decide +kernel
theorem dX7_loss_15 : decode cX7_loss 15 = .ok (.ifCond .lt 10, 3) := by decide +kernel
theorem dX7_loss_18 : decode cX7_loss 18 = .ok (.iload_n 2, 1) := by decide +kernel
theorem dX7_loss_19 : decode cX7_loss 19 = .ok (.sipush 999, 3) := by decide +kernel
theorem dX7_loss_22 : decode cX7_loss 22 = .ok (.if_icmp .le 6, 3) := by decide +kernel
theorem dX7_loss_25 : decode cX7_loss 25 = .ok (.bipush (-102), 2) := by decide +kernel
theorem dX7_loss_27 : decode cX7_loss 27 = .ok (.ireturn, 1) := by decide +kernel
theorem dX7_loss_28 : decode cX7_loss 28 = .ok (.aload_n 0, 1) := by decide +kernel
theorem dX7_loss_29 : decode cX7_loss 29 = .ok (.getfield 47, 3) := by decide +kernel
theorem dX7_loss_32 : decode cX7_loss 32 = .ok (.aload_n 0, 1) := by decide +kernel
theorem dX7_loss_33 : decode cX7_loss 33 = .ok (.getfield 19, 3) := by decide +kernel
theorem dX7_loss_36 : decode cX7_loss 36 = .ok (.iload_n 1, 1) := by decide +kernel
theorem dX7_loss_37 : decode cX7_loss 37 = .ok (.iload_n 2, 1) := by decide +kernel
theorem dX7_loss_38 : decode cX7_loss 38 = .ok (.invokevirtual 205, 3) := by decide +kernel
theorem dX7_loss_41 : decode cX7_loss 41 = .ok (.ireturn, 1) := by decide +kernel
theorem dX7_all_0 : decode cX7_all 0 = .ok (.iload_n 1, 1) := by decide +kernel
theorem dX7_all_1 : decode cX7_all 1 = .ok (.tableswitch 101 0 5 #[39, 54, 69, 77, 85, 93], 39) := by decide +kernel
theorem dX7_all_40 : decode cX7_all 40 = .ok (.aload_n 0, 1) := by decide +kernel
theorem dX7_all_41 : decode cX7_all 41 = .ok (.getfield 40, 3) := by decide +kernel
theorem dX7_all_44 : decode cX7_all 44 = .ok (.aload_n 0, 1) := by decide +kernel
theorem dX7_all_45 : decode cX7_all 45 = .ok (.getfield 19, 3) := by decide +kernel
theorem dX7_all_48 : decode cX7_all 48 = .ok (.getfield 81, 3) := by decide +kernel
theorem dX7_all_51 : decode cX7_all 51 = .ok (.invokevirtual 209, 3) := by decide +kernel
theorem dX7_all_54 : decode cX7_all 54 = .ok (.ireturn, 1) := by decide +kernel
theorem dX7_all_55 : decode cX7_all 55 = .ok (.aload_n 0, 1) := by decide +kernel
theorem dX7_all_56 : decode cX7_all 56 = .ok (.getfield 40, 3) := by decide +kernel
theorem dX7_all_59 : decode cX7_all 59 = .ok (.aload_n 0, 1) := by decide +kernel
theorem dX7_all_60 : decode cX7_all 60 = .ok (.getfield 19, 3) := by decide +kernel
theorem dX7_all_63 : decode cX7_all 63 = .ok (.getfield 81, 3) := by decide +kernel
theorem dX7_all_66 : decode cX7_all 66 = .ok (.invokevirtual 212, 3) := by decide +kernel
theorem dX7_all_69 : decode cX7_all 69 = .ok (.ireturn, 1) := by decide +kernel
theorem dX7_all_70 : decode cX7_all 70 = .ok (.aload_n 0, 1) := by decide +kernel
theorem dX7_all_71 : decode cX7_all 71 = .ok (.getfield 26, 3) := by decide +kernel
theorem dX7_all_74 : decode cX7_all 74 = .ok (.invokevirtual 215, 3) := by decide +kernel
theorem dX7_all_77 : decode cX7_all 77 = .ok (.ireturn, 1) := by decide +kernel
theorem dX7_all_78 : decode cX7_all 78 = .ok (.aload_n 0, 1) := by decide +kernel
theorem dX7_all_79 : decode cX7_all 79 = .ok (.getfield 26, 3) := by decide +kernel
theorem dX7_all_82 : decode cX7_all 82 = .ok (.invokevirtual 218, 3) := by decide +kernel
theorem dX7_all_85 : decode cX7_all 85 = .ok (.ireturn, 1) := by decide +kernel
theorem dX7_all_86 : decode cX7_all 86 = .ok (.aload_n 0, 1) := by decide +kernel
theorem dX7_all_87 : decode cX7_all 87 = .ok (.getfield 47, 3) := by decide +kernel
theorem dX7_all_90 : decode cX7_all 90 = .ok (.invokevirtual 221, 3) := by decide +kernel
theorem dX7_all_93 : decode cX7_all 93 = .ok (.ireturn, 1) := by decide +kernel
theorem dX7_all_94 : decode cX7_all 94 = .ok (.aload_n 0, 1) := by decide +kernel
theorem dX7_all_95 : decode cX7_all 95 = .ok (.getfield 47, 3) := by decide +kernel
theorem dX7_all_98 : decode cX7_all 98 = .ok (.invokevirtual 224, 3) := by decide +kernel
theorem dX7_all_101 : decode cX7_all 101 = .ok (.ireturn, 1) := by decide +kernel
theorem dX7_all_102 : decode cX7_all 102 = .ok (.bipush (-102), 2) := by decide +kernel
theorem dX7_all_104 : decode cX7_all 104 = .ok (.ireturn, 1) := by decide +kernel
theorem dX7_count_0 : decode cX7_count 0 = .ok (.iload_n 1, 1) := by decide +kernel
theorem dX7_count_1 : decode cX7_count 1 = .ok (.tableswitch 90 0 6 #[43, 51, 59, 67, 75, 80, 85], 43) := by decide +kernel
theorem dX7_count_44 : decode cX7_count 44 = .ok (.aload_n 0, 1) := by decide +kernel
theorem dX7_count_45 : decode cX7_count 45 = .ok (.getfield 19, 3) := by decide +kernel
theorem dX7_count_48 : decode cX7_count 48 = .ok (.getfield 81, 3) := by decide +kernel
theorem dX7_count_51 : decode cX7_count 51 = .ok (.ireturn, 1) := by decide +kernel
theorem dX7_count_52 : decode cX7_count 52 = .ok (.aload_n 0, 1) := by decide +kernel
theorem dX7_count_53 : decode cX7_count 53 = .ok (.getfield 10, 3) := by decide +kernel
theorem dX7_count_56 : decode cX7_count 56 = .ok (.getfield 51, 3) := by decide +kernel
theorem dX7_count_59 : decode cX7_count 59 = .ok (.ireturn, 1) := by decide +kernel
theorem dX7_count_60 : decode cX7_count 60 = .ok (.aload_n 0, 1) := by decide +kernel
theorem dX7_count_61 : decode cX7_count 61 = .ok (.getfield 19, 3) := by decide +kernel
theorem dX7_count_64 : decode cX7_count 64 = .ok (.invokevirtual 227, 3) := by decide +kernel
theorem dX7_count_67 : decode cX7_count 67 = .ok (.ireturn, 1) := by decide +kernel
theorem dX7_count_68 : decode cX7_count 68 = .ok (.aload_n 0, 1) := by decide +kernel
theorem dX7_count_69 : decode cX7_count 69 = .ok (.getfield 19, 3) := by decide +kernel
theorem dX7_count_72 : decode cX7_count 72 = .ok (.invokevirtual 230, 3) := by decide +kernel
theorem dX7_count_75 : decode cX7_count 75 = .ok (.ireturn, 1) := by decide +kernel
theorem dX7_count_76 : decode cX7_count 76 = .ok (.aload_n 0, 1) := by decide +kernel
theorem dX7_count_77 : decode cX7_count 77 = .ok (.getfield 71, 3) := by decide +kernel
theorem dX7_count_80 : decode cX7_count 80 = .ok (.ireturn, 1) := by decide +kernel
theorem dX7_count_81 : decode cX7_count 81 = .ok (.aload_n 0, 1) := by decide +kernel
theorem dX7_count_82 : decode cX7_count 82 = .ok (.getfield 125, 3) := by decide +kernel
theorem dX7_count_85 : decode cX7_count 85 = .ok (.ireturn, 1) := by decide +kernel
theorem dX7_count_86 : decode cX7_count 86 = .ok (.aload_n 0, 1) := by decide +kernel
theorem dX7_count_87 : decode cX7_count 87 = .ok (.getfield 116, 3) := by decide +kernel
theorem dX7_count_90 : decode cX7_count 90 = .ok (.ireturn, 1) := by decide +kernel
theorem dX7_count_91 : decode cX7_count 91 = .ok (.bipush (-102), 2) := by decide +kernel
theorem dX7_count_93 : decode cX7_count 93 = .ok (.ireturn, 1) := by decide +kernel
theorem dX7_digest_0 : decode cX7_digest 0 = .ok (.ldc2_w 233, 3) := by decide +kernel
theorem dX7_digest_3 : decode cX7_digest 3 = .ok (.lstore_n 1, 1) := by decide +kernel
theorem dX7_digest_4 : decode cX7_digest 4 = .ok (.aload_n 0, 1) := by decide +kernel
theorem dX7_digest_5 : decode cX7_digest 5 = .ok (.lload_n 1, 1) := by decide +kernel
theorem dX7_digest_6 : decode cX7_digest 6 = .ok (.invokevirtual 235, 3) := by decide +kernel
theorem dX7_digest_9 : decode cX7_digest 9 = .ok (.lstore_n 1, 1) := by decide +kernel
theorem dX7_digest_10 : decode cX7_digest 10 = .ok (.aload_n 0, 1) := by decide +kernel
theorem dX7_digest_11 : decode cX7_digest 11 = .ok (.lload_n 1, 1) := by decide +kernel
theorem dX7_digest_12 : decode cX7_digest 12 = .ok (.invokevirtual 239, 3) := by decide +kernel
theorem dX7_digest_15 : decode cX7_digest 15 = .ok (.lstore_n 1, 1) := by decide +kernel
theorem dX7_digest_16 : decode cX7_digest 16 = .ok (.aload_n 0, 1) := by decide +kernel
theorem dX7_digest_17 : decode cX7_digest 17 = .ok (.lload_n 1, 1) := by decide +kernel
theorem dX7_digest_18 : decode cX7_digest 18 = .ok (.invokevirtual 242, 3) := by decide +kernel
theorem dX7_digest_21 : decode cX7_digest 21 = .ok (.lstore_n 1, 1) := by decide +kernel
theorem dX7_digest_22 : decode cX7_digest 22 = .ok (.aload_n 0, 1) := by decide +kernel
theorem dX7_digest_23 : decode cX7_digest 23 = .ok (.lload_n 1, 1) := by decide +kernel
theorem dX7_digest_24 : decode cX7_digest 24 = .ok (.invokevirtual 245, 3) := by decide +kernel
theorem dX7_digest_27 : decode cX7_digest 27 = .ok (.lreturn, 1) := by decide +kernel
theorem dX7_digestOfRoads_0 : decode cX7_digestOfRoads 0 = .ok (.iconst 0, 1) := by decide +kernel
theorem dX7_digestOfRoads_1 : decode cX7_digestOfRoads 1 = .ok (.istore_n 3, 1) := by decide +kernel
theorem dX7_digestOfRoads_2 : decode cX7_digestOfRoads 2 = .ok (.iload_n 3, 1) := by decide +kernel
theorem dX7_digestOfRoads_3 : decode cX7_digestOfRoads 3 = .ok (.aload_n 0, 1) := by decide +kernel
theorem dX7_digestOfRoads_4 : decode cX7_digestOfRoads 4 = .ok (.getfield 19, 3) := by decide +kernel
theorem dX7_digestOfRoads_7 : decode cX7_digestOfRoads 7 = .ok (.getfield 81, 3) := by decide +kernel
theorem dX7_digestOfRoads_10 : decode cX7_digestOfRoads 10 = .ok (.if_icmp .ge 37, 3) := by decide +kernel
theorem dX7_digestOfRoads_13 : decode cX7_digestOfRoads 13 = .ok (.iconst 0, 1) := by decide +kernel
theorem dX7_digestOfRoads_14 : decode cX7_digestOfRoads 14 = .ok (.istore 4, 2) := by decide +kernel
theorem dX7_digestOfRoads_16 : decode cX7_digestOfRoads 16 = .ok (.iload 4, 2) := by decide +kernel
theorem dX7_digestOfRoads_18 : decode cX7_digestOfRoads 18 = .ok (.iconst 5, 1) := by decide +kernel
theorem dX7_digestOfRoads_19 : decode cX7_digestOfRoads 19 = .ok (.if_icmp .gt 22, 3) := by decide +kernel
theorem dX7_digestOfRoads_22 : decode cX7_digestOfRoads 22 = .ok (.lload_n 1, 1) := by decide +kernel
theorem dX7_digestOfRoads_23 : decode cX7_digestOfRoads 23 = .ok (.aload_n 0, 1) := by decide +kernel
theorem dX7_digestOfRoads_24 : decode cX7_digestOfRoads 24 = .ok (.iload_n 3, 1) := by decide +kernel
theorem dX7_digestOfRoads_25 : decode cX7_digestOfRoads 25 = .ok (.iload 4, 2) := by decide +kernel
theorem dX7_digestOfRoads_27 : decode cX7_digestOfRoads 27 = .ok (.invokevirtual 248, 3) := by decide +kernel
theorem dX7_digestOfRoads_30 : decode cX7_digestOfRoads 30 = .ok (.i2l, 1) := by decide +kernel
theorem dX7_digestOfRoads_31 : decode cX7_digestOfRoads 31 = .ok (.invokestatic 251, 3) := by decide +kernel
theorem dX7_digestOfRoads_34 : decode cX7_digestOfRoads 34 = .ok (.lstore_n 1, 1) := by decide +kernel
theorem dX7_digestOfRoads_35 : decode cX7_digestOfRoads 35 = .ok (.iinc 4 1, 3) := by decide +kernel
theorem dX7_digestOfRoads_38 : decode cX7_digestOfRoads 38 = .ok (.goto (-22), 3) := by decide +kernel
theorem dX7_digestOfRoads_41 : decode cX7_digestOfRoads 41 = .ok (.iinc 3 1, 3) := by decide +kernel
theorem dX7_digestOfRoads_44 : decode cX7_digestOfRoads 44 = .ok (.goto (-42), 3) := by decide +kernel
theorem dX7_digestOfRoads_47 : decode cX7_digestOfRoads 47 = .ok (.lload_n 1, 1) := by decide +kernel
theorem dX7_digestOfRoads_48 : decode cX7_digestOfRoads 48 = .ok (.lreturn, 1) := by decide +kernel
theorem dX7_digestOfPairs_0 : decode cX7_digestOfPairs 0 = .ok (.iconst 0, 1) := by decide +kernel
theorem dX7_digestOfPairs_1 : decode cX7_digestOfPairs 1 = .ok (.istore_n 3, 1) := by decide +kernel
theorem dX7_digestOfPairs_2 : decode cX7_digestOfPairs 2 = .ok (.iload_n 3, 1) := by decide +kernel
theorem dX7_digestOfPairs_3 : decode cX7_digestOfPairs 3 = .ok (.aload_n 0, 1) := by decide +kernel
theorem dX7_digestOfPairs_4 : decode cX7_digestOfPairs 4 = .ok (.getfield 19, 3) := by decide +kernel
theorem dX7_digestOfPairs_7 : decode cX7_digestOfPairs 7 = .ok (.getfield 81, 3) := by decide +kernel
theorem dX7_digestOfPairs_10 : decode cX7_digestOfPairs 10 = .ok (.if_icmp .ge 112, 3) := by decide +kernel
theorem dX7_digestOfPairs_13 : decode cX7_digestOfPairs 13 = .ok (.iconst 0, 1) := by decide +kernel
theorem dX7_digestOfPairs_14 : decode cX7_digestOfPairs 14 = .ok (.istore 4, 2) := by decide +kernel
theorem dX7_digestOfPairs_16 : decode cX7_digestOfPairs 16 = .ok (.iload 4, 2) := by decide +kernel
theorem dX7_digestOfPairs_18 : decode cX7_digestOfPairs 18 = .ok (.aload_n 0, 1) := by decide +kernel
theorem dX7_digestOfPairs_19 : decode cX7_digestOfPairs 19 = .ok (.getfield 19, 3) := by decide +kernel
theorem dX7_digestOfPairs_22 : decode cX7_digestOfPairs 22 = .ok (.getfield 81, 3) := by decide +kernel
theorem dX7_digestOfPairs_25 : decode cX7_digestOfPairs 25 = .ok (.if_icmp .ge 91, 3) := by decide +kernel
theorem dX7_digestOfPairs_28 : decode cX7_digestOfPairs 28 = .ok (.lload_n 1, 1) := by decide +kernel
theorem dX7_digestOfPairs_29 : decode cX7_digestOfPairs 29 = .ok (.aload_n 0, 1) := by decide +kernel
theorem dX7_digestOfPairs_30 : decode cX7_digestOfPairs 30 = .ok (.iload_n 3, 1) := by decide +kernel
theorem dX7_digestOfPairs_31 : decode cX7_digestOfPairs 31 = .ok (.iload 4, 2) := by decide +kernel
theorem dX7_digestOfPairs_33 : decode cX7_digestOfPairs 33 = .ok (.invokevirtual 255, 3) := by decide +kernel
theorem dX7_digestOfPairs_36 : decode cX7_digestOfPairs 36 = .ok (.i2l, 1) := by decide +kernel
theorem dX7_digestOfPairs_37 : decode cX7_digestOfPairs 37 = .ok (.invokestatic 251, 3) := by decide +kernel
theorem dX7_digestOfPairs_40 : decode cX7_digestOfPairs 40 = .ok (.lstore_n 1, 1) := by decide +kernel
theorem dX7_digestOfPairs_41 : decode cX7_digestOfPairs 41 = .ok (.lload_n 1, 1) := by decide +kernel
theorem dX7_digestOfPairs_42 : decode cX7_digestOfPairs 42 = .ok (.aload_n 0, 1) := by decide +kernel
theorem dX7_digestOfPairs_43 : decode cX7_digestOfPairs 43 = .ok (.iload_n 3, 1) := by decide +kernel
theorem dX7_digestOfPairs_44 : decode cX7_digestOfPairs 44 = .ok (.iload 4, 2) := by decide +kernel
theorem dX7_digestOfPairs_46 : decode cX7_digestOfPairs 46 = .ok (.invokevirtual 258, 3) := by decide +kernel
theorem dX7_digestOfPairs_49 : decode cX7_digestOfPairs 49 = .ok (.i2l, 1) := by decide +kernel
theorem dX7_digestOfPairs_50 : decode cX7_digestOfPairs 50 = .ok (.invokestatic 251, 3) := by decide +kernel
theorem dX7_digestOfPairs_53 : decode cX7_digestOfPairs 53 = .ok (.lstore_n 1, 1) := by decide +kernel
theorem dX7_digestOfPairs_54 : decode cX7_digestOfPairs 54 = .ok (.lload_n 1, 1) := by decide +kernel
theorem dX7_digestOfPairs_55 : decode cX7_digestOfPairs 55 = .ok (.aload_n 0, 1) := by decide +kernel
theorem dX7_digestOfPairs_56 : decode cX7_digestOfPairs 56 = .ok (.iload_n 3, 1) := by decide +kernel
theorem dX7_digestOfPairs_57 : decode cX7_digestOfPairs 57 = .ok (.iload 4, 2) := by decide +kernel
theorem dX7_digestOfPairs_59 : decode cX7_digestOfPairs 59 = .ok (.invokevirtual 261, 3) := by decide +kernel
theorem dX7_digestOfPairs_62 : decode cX7_digestOfPairs 62 = .ok (.i2l, 1) := by decide +kernel
theorem dX7_digestOfPairs_63 : decode cX7_digestOfPairs 63 = .ok (.invokestatic 251, 3) := by decide +kernel
theorem dX7_digestOfPairs_66 : decode cX7_digestOfPairs 66 = .ok (.lstore_n 1, 1) := by decide +kernel
theorem dX7_digestOfPairs_67 : decode cX7_digestOfPairs 67 = .ok (.lload_n 1, 1) := by decide +kernel
theorem dX7_digestOfPairs_68 : decode cX7_digestOfPairs 68 = .ok (.aload_n 0, 1) := by decide +kernel
theorem dX7_digestOfPairs_69 : decode cX7_digestOfPairs 69 = .ok (.iload_n 3, 1) := by decide +kernel
theorem dX7_digestOfPairs_70 : decode cX7_digestOfPairs 70 = .ok (.iload 4, 2) := by decide +kernel
theorem dX7_digestOfPairs_72 : decode cX7_digestOfPairs 72 = .ok (.invokevirtual 264, 3) := by decide +kernel
theorem dX7_digestOfPairs_75 : decode cX7_digestOfPairs 75 = .ok (.i2l, 1) := by decide +kernel
theorem dX7_digestOfPairs_76 : decode cX7_digestOfPairs 76 = .ok (.invokestatic 251, 3) := by decide +kernel
theorem dX7_digestOfPairs_79 : decode cX7_digestOfPairs 79 = .ok (.lstore_n 1, 1) := by decide +kernel
theorem dX7_digestOfPairs_80 : decode cX7_digestOfPairs 80 = .ok (.iconst 0, 1) := by decide +kernel
theorem dX7_digestOfPairs_81 : decode cX7_digestOfPairs 81 = .ok (.istore 5, 2) := by decide +kernel
theorem dX7_digestOfPairs_83 : decode cX7_digestOfPairs 83 = .ok (.iload 5, 2) := by decide +kernel
theorem dX7_digestOfPairs_85 : decode cX7_digestOfPairs 85 = .ok (.iconst 3, 1) := by decide +kernel
theorem dX7_digestOfPairs_86 : decode cX7_digestOfPairs 86 = .ok (.if_icmp .gt 24, 3) := by decide +kernel
theorem dX7_digestOfPairs_89 : decode cX7_digestOfPairs 89 = .ok (.lload_n 1, 1) := by decide +kernel
theorem dX7_digestOfPairs_90 : decode cX7_digestOfPairs 90 = .ok (.aload_n 0, 1) := by decide +kernel
theorem dX7_digestOfPairs_91 : decode cX7_digestOfPairs 91 = .ok (.iload_n 3, 1) := by decide +kernel
theorem dX7_digestOfPairs_92 : decode cX7_digestOfPairs 92 = .ok (.iload 4, 2) := by decide +kernel
theorem dX7_digestOfPairs_94 : decode cX7_digestOfPairs 94 = .ok (.iload 5, 2) := by decide +kernel
theorem dX7_digestOfPairs_96 : decode cX7_digestOfPairs 96 = .ok (.invokevirtual 267, 3) := by decide +kernel
theorem dX7_digestOfPairs_99 : decode cX7_digestOfPairs 99 = .ok (.i2l, 1) := by decide +kernel
theorem dX7_digestOfPairs_100 : decode cX7_digestOfPairs 100 = .ok (.invokestatic 251, 3) := by decide +kernel
theorem dX7_digestOfPairs_103 : decode cX7_digestOfPairs 103 = .ok (.lstore_n 1, 1) := by decide +kernel
theorem dX7_digestOfPairs_104 : decode cX7_digestOfPairs 104 = .ok (.iinc 5 1, 3) := by decide +kernel
theorem dX7_digestOfPairs_107 : decode cX7_digestOfPairs 107 = .ok (.goto (-24), 3) := by decide +kernel
theorem dX7_digestOfPairs_110 : decode cX7_digestOfPairs 110 = .ok (.iinc 4 1, 3) := by decide +kernel
theorem dX7_digestOfPairs_113 : decode cX7_digestOfPairs 113 = .ok (.goto (-97), 3) := by decide +kernel
theorem dX7_digestOfPairs_116 : decode cX7_digestOfPairs 116 = .ok (.iinc 3 1, 3) := by decide +kernel
theorem dX7_digestOfPairs_119 : decode cX7_digestOfPairs 119 = .ok (.goto (-117), 3) := by decide +kernel
theorem dX7_digestOfPairs_122 : decode cX7_digestOfPairs 122 = .ok (.lload_n 1, 1) := by decide +kernel
theorem dX7_digestOfPairs_123 : decode cX7_digestOfPairs 123 = .ok (.lreturn, 1) := by decide +kernel
theorem dX7_digestOfPlaces_0 : decode cX7_digestOfPlaces 0 = .ok (.iconst 0, 1) := by decide +kernel
theorem dX7_digestOfPlaces_1 : decode cX7_digestOfPlaces 1 = .ok (.istore_n 3, 1) := by decide +kernel
theorem dX7_digestOfPlaces_2 : decode cX7_digestOfPlaces 2 = .ok (.iload_n 3, 1) := by decide +kernel
theorem dX7_digestOfPlaces_3 : decode cX7_digestOfPlaces 3 = .ok (.bipush 8, 2) := by decide +kernel
theorem dX7_digestOfPlaces_5 : decode cX7_digestOfPlaces 5 = .ok (.if_icmp .ge 44, 3) := by decide +kernel
theorem dX7_digestOfPlaces_8 : decode cX7_digestOfPlaces 8 = .ok (.iconst 0, 1) := by decide +kernel
theorem dX7_digestOfPlaces_9 : decode cX7_digestOfPlaces 9 = .ok (.istore 4, 2) := by decide +kernel
theorem dX7_digestOfPlaces_11 : decode cX7_digestOfPlaces 11 = .ok (.iload 4, 2) := by decide +kernel
theorem dX7_digestOfPlaces_13 : decode cX7_digestOfPlaces 13 = .ok (.bipush 8, 2) := by decide +kernel
theorem dX7_digestOfPlaces_15 : decode cX7_digestOfPlaces 15 = .ok (.if_icmp .ge 28, 3) := by decide +kernel
theorem dX7_digestOfPlaces_18 : decode cX7_digestOfPlaces 18 = .ok (.iload_n 3, 1) := by decide +kernel
theorem dX7_digestOfPlaces_19 : decode cX7_digestOfPlaces 19 = .ok (.iload 4, 2) := by decide +kernel
theorem dX7_digestOfPlaces_21 : decode cX7_digestOfPlaces 21 = .ok (.if_icmp .eq 16, 3) := by decide +kernel
theorem dX7_digestOfPlaces_24 : decode cX7_digestOfPlaces 24 = .ok (.lload_n 1, 1) := by decide +kernel
theorem dX7_digestOfPlaces_25 : decode cX7_digestOfPlaces 25 = .ok (.aload_n 0, 1) := by decide +kernel
theorem dX7_digestOfPlaces_26 : decode cX7_digestOfPlaces 26 = .ok (.iload_n 3, 1) := by decide +kernel
theorem dX7_digestOfPlaces_27 : decode cX7_digestOfPlaces 27 = .ok (.iload 4, 2) := by decide +kernel
theorem dX7_digestOfPlaces_29 : decode cX7_digestOfPlaces 29 = .ok (.invokevirtual 270, 3) := by decide +kernel
theorem dX7_digestOfPlaces_32 : decode cX7_digestOfPlaces 32 = .ok (.i2l, 1) := by decide +kernel
theorem dX7_digestOfPlaces_33 : decode cX7_digestOfPlaces 33 = .ok (.invokestatic 251, 3) := by decide +kernel
theorem dX7_digestOfPlaces_36 : decode cX7_digestOfPlaces 36 = .ok (.lstore_n 1, 1) := by decide +kernel
theorem dX7_digestOfPlaces_37 : decode cX7_digestOfPlaces 37 = .ok (.iinc 4 1, 3) := by decide +kernel
theorem dX7_digestOfPlaces_40 : decode cX7_digestOfPlaces 40 = .ok (.goto (-29), 3) := by decide +kernel
theorem dX7_digestOfPlaces_43 : decode cX7_digestOfPlaces 43 = .ok (.iinc 3 1, 3) := by decide +kernel
theorem dX7_digestOfPlaces_46 : decode cX7_digestOfPlaces 46 = .ok (.goto (-44), 3) := by decide +kernel
theorem dX7_digestOfPlaces_49 : decode cX7_digestOfPlaces 49 = .ok (.iconst 0, 1) := by decide +kernel
theorem dX7_digestOfPlaces_50 : decode cX7_digestOfPlaces 50 = .ok (.istore_n 3, 1) := by decide +kernel
theorem dX7_digestOfPlaces_51 : decode cX7_digestOfPlaces 51 = .ok (.iload_n 3, 1) := by decide +kernel
theorem dX7_digestOfPlaces_52 : decode cX7_digestOfPlaces 52 = .ok (.aload_n 0, 1) := by decide +kernel
theorem dX7_digestOfPlaces_53 : decode cX7_digestOfPlaces 53 = .ok (.getfield 19, 3) := by decide +kernel
theorem dX7_digestOfPlaces_56 : decode cX7_digestOfPlaces 56 = .ok (.getfield 81, 3) := by decide +kernel
theorem dX7_digestOfPlaces_59 : decode cX7_digestOfPlaces 59 = .ok (.if_icmp .ge 22, 3) := by decide +kernel
theorem dX7_digestOfPlaces_62 : decode cX7_digestOfPlaces 62 = .ok (.lload_n 1, 1) := by decide +kernel
theorem dX7_digestOfPlaces_63 : decode cX7_digestOfPlaces 63 = .ok (.aload_n 0, 1) := by decide +kernel
theorem dX7_digestOfPlaces_64 : decode cX7_digestOfPlaces 64 = .ok (.iload_n 3, 1) := by decide +kernel
theorem dX7_digestOfPlaces_65 : decode cX7_digestOfPlaces 65 = .ok (.bipush 100, 2) := by decide +kernel
theorem dX7_digestOfPlaces_67 : decode cX7_digestOfPlaces 67 = .ok (.invokevirtual 273, 3) := by decide +kernel
theorem dX7_digestOfPlaces_70 : decode cX7_digestOfPlaces 70 = .ok (.i2l, 1) := by decide +kernel
theorem dX7_digestOfPlaces_71 : decode cX7_digestOfPlaces 71 = .ok (.invokestatic 251, 3) := by decide +kernel
theorem dX7_digestOfPlaces_74 : decode cX7_digestOfPlaces 74 = .ok (.lstore_n 1, 1) := by decide +kernel
theorem dX7_digestOfPlaces_75 : decode cX7_digestOfPlaces 75 = .ok (.iinc 3 1, 3) := by decide +kernel
theorem dX7_digestOfPlaces_78 : decode cX7_digestOfPlaces 78 = .ok (.goto (-27), 3) := by decide +kernel
theorem dX7_digestOfPlaces_81 : decode cX7_digestOfPlaces 81 = .ok (.lload_n 1, 1) := by decide +kernel
theorem dX7_digestOfPlaces_82 : decode cX7_digestOfPlaces 82 = .ok (.lreturn, 1) := by decide +kernel
theorem dX7_digestOfCounts_0 : decode cX7_digestOfCounts 0 = .ok (.iconst 0, 1) := by decide +kernel
theorem dX7_digestOfCounts_1 : decode cX7_digestOfCounts 1 = .ok (.istore_n 3, 1) := by decide +kernel
theorem dX7_digestOfCounts_2 : decode cX7_digestOfCounts 2 = .ok (.iload_n 3, 1) := by decide +kernel
theorem dX7_digestOfCounts_3 : decode cX7_digestOfCounts 3 = .ok (.iconst 5, 1) := by decide +kernel
theorem dX7_digestOfCounts_4 : decode cX7_digestOfCounts 4 = .ok (.if_icmp .gt 20, 3) := by decide +kernel
theorem dX7_digestOfCounts_7 : decode cX7_digestOfCounts 7 = .ok (.lload_n 1, 1) := by decide +kernel
theorem dX7_digestOfCounts_8 : decode cX7_digestOfCounts 8 = .ok (.aload_n 0, 1) := by decide +kernel
theorem dX7_digestOfCounts_9 : decode cX7_digestOfCounts 9 = .ok (.iload_n 3, 1) := by decide +kernel
theorem dX7_digestOfCounts_10 : decode cX7_digestOfCounts 10 = .ok (.invokevirtual 276, 3) := by decide +kernel
theorem dX7_digestOfCounts_13 : decode cX7_digestOfCounts 13 = .ok (.i2l, 1) := by decide +kernel
theorem dX7_digestOfCounts_14 : decode cX7_digestOfCounts 14 = .ok (.invokestatic 251, 3) := by decide +kernel
theorem dX7_digestOfCounts_17 : decode cX7_digestOfCounts 17 = .ok (.lstore_n 1, 1) := by decide +kernel
theorem dX7_digestOfCounts_18 : decode cX7_digestOfCounts 18 = .ok (.iinc 3 1, 3) := by decide +kernel
theorem dX7_digestOfCounts_21 : decode cX7_digestOfCounts 21 = .ok (.goto (-19), 3) := by decide +kernel
theorem dX7_digestOfCounts_24 : decode cX7_digestOfCounts 24 = .ok (.iconst 0, 1) := by decide +kernel
theorem dX7_digestOfCounts_25 : decode cX7_digestOfCounts 25 = .ok (.istore_n 3, 1) := by decide +kernel
theorem dX7_digestOfCounts_26 : decode cX7_digestOfCounts 26 = .ok (.iload_n 3, 1) := by decide +kernel
theorem dX7_digestOfCounts_27 : decode cX7_digestOfCounts 27 = .ok (.aload_n 0, 1) := by decide +kernel
theorem dX7_digestOfCounts_28 : decode cX7_digestOfCounts 28 = .ok (.getfield 10, 3) := by decide +kernel
theorem dX7_digestOfCounts_31 : decode cX7_digestOfCounts 31 = .ok (.getfield 51, 3) := by decide +kernel
theorem dX7_digestOfCounts_34 : decode cX7_digestOfCounts 34 = .ok (.if_icmp .ge 24, 3) := by decide +kernel
theorem dX7_digestOfCounts_37 : decode cX7_digestOfCounts 37 = .ok (.lload_n 1, 1) := by decide +kernel
theorem dX7_digestOfCounts_38 : decode cX7_digestOfCounts 38 = .ok (.aload_n 0, 1) := by decide +kernel
theorem dX7_digestOfCounts_39 : decode cX7_digestOfCounts 39 = .ok (.getfield 10, 3) := by decide +kernel
theorem dX7_digestOfCounts_42 : decode cX7_digestOfCounts 42 = .ok (.getfield 279, 3) := by decide +kernel
theorem dX7_digestOfCounts_45 : decode cX7_digestOfCounts 45 = .ok (.iload_n 3, 1) := by decide +kernel
theorem dX7_digestOfCounts_46 : decode cX7_digestOfCounts 46 = .ok (.iaload, 1) := by decide +kernel
theorem dX7_digestOfCounts_47 : decode cX7_digestOfCounts 47 = .ok (.i2l, 1) := by decide +kernel
theorem dX7_digestOfCounts_48 : decode cX7_digestOfCounts 48 = .ok (.invokestatic 251, 3) := by decide +kernel
theorem dX7_digestOfCounts_51 : decode cX7_digestOfCounts 51 = .ok (.lstore_n 1, 1) := by decide +kernel
theorem dX7_digestOfCounts_52 : decode cX7_digestOfCounts 52 = .ok (.iinc 3 1, 3) := by decide +kernel
theorem dX7_digestOfCounts_55 : decode cX7_digestOfCounts 55 = .ok (.goto (-29), 3) := by decide +kernel
theorem dX7_digestOfCounts_58 : decode cX7_digestOfCounts 58 = .ok (.iconst 0, 1) := by decide +kernel
theorem dX7_digestOfCounts_59 : decode cX7_digestOfCounts 59 = .ok (.istore_n 3, 1) := by decide +kernel
theorem dX7_digestOfCounts_60 : decode cX7_digestOfCounts 60 = .ok (.iload_n 3, 1) := by decide +kernel
theorem dX7_digestOfCounts_61 : decode cX7_digestOfCounts 61 = .ok (.bipush 6, 2) := by decide +kernel
theorem dX7_digestOfCounts_63 : decode cX7_digestOfCounts 63 = .ok (.if_icmp .gt 20, 3) := by decide +kernel
theorem dX7_digestOfCounts_66 : decode cX7_digestOfCounts 66 = .ok (.lload_n 1, 1) := by decide +kernel
theorem dX7_digestOfCounts_67 : decode cX7_digestOfCounts 67 = .ok (.aload_n 0, 1) := by decide +kernel
theorem dX7_digestOfCounts_68 : decode cX7_digestOfCounts 68 = .ok (.iload_n 3, 1) := by decide +kernel
theorem dX7_digestOfCounts_69 : decode cX7_digestOfCounts 69 = .ok (.invokevirtual 282, 3) := by decide +kernel
theorem dX7_digestOfCounts_72 : decode cX7_digestOfCounts 72 = .ok (.i2l, 1) := by decide +kernel
theorem dX7_digestOfCounts_73 : decode cX7_digestOfCounts 73 = .ok (.invokestatic 251, 3) := by decide +kernel
theorem dX7_digestOfCounts_76 : decode cX7_digestOfCounts 76 = .ok (.lstore_n 1, 1) := by decide +kernel
theorem dX7_digestOfCounts_77 : decode cX7_digestOfCounts 77 = .ok (.iinc 3 1, 3) := by decide +kernel
theorem dX7_digestOfCounts_80 : decode cX7_digestOfCounts 80 = .ok (.goto (-20), 3) := by decide +kernel
theorem dX7_digestOfCounts_83 : decode cX7_digestOfCounts 83 = .ok (.lload_n 1, 1) := by decide +kernel
theorem dX7_digestOfCounts_84 : decode cX7_digestOfCounts 84 = .ok (.lreturn, 1) := by decide +kernel
theorem dX7_mix_0 : decode cX7_mix 0 = .ok (.ldc2_w 285, 3) := by decide +kernel
theorem dX7_mix_3 : decode cX7_mix 3 = .ok (.lload_n 0, 1) := by decide +kernel
theorem dX7_mix_4 : decode cX7_mix 4 = .ok (.lmul, 1) := by decide +kernel
theorem dX7_mix_5 : decode cX7_mix 5 = .ok (.lload_n 2, 1) := by decide +kernel
theorem dX7_mix_6 : decode cX7_mix 6 = .ok (.ladd, 1) := by decide +kernel
theorem dX7_mix_7 : decode cX7_mix 7 = .ok (.lreturn, 1) := by decide +kernel
theorem dX7_isPlace_0 : decode cX7_isPlace 0 = .ok (.iload_n 0, 1) := by decide +kernel
theorem dX7_isPlace_1 : decode cX7_isPlace 1 = .ok (.ifCond .lt 13, 3) := by decide +kernel
theorem dX7_isPlace_4 : decode cX7_isPlace 4 = .ok (.iload_n 0, 1) := by decide +kernel
theorem dX7_isPlace_5 : decode cX7_isPlace 5 = .ok (.bipush 8, 2) := by decide +kernel
theorem dX7_isPlace_7 : decode cX7_isPlace 7 = .ok (.if_icmp .ge 7, 3) := by decide +kernel
theorem dX7_isPlace_10 : decode cX7_isPlace 10 = .ok (.iconst 1, 1) := by decide +kernel
theorem dX7_isPlace_11 : decode cX7_isPlace 11 = .ok (.goto 4, 3) := by decide +kernel
theorem dX7_isPlace_14 : decode cX7_isPlace 14 = .ok (.iconst 0, 1) := by decide +kernel
theorem dX7_isPlace_15 : decode cX7_isPlace 15 = .ok (.ireturn, 1) := by decide +kernel
theorem dX7_orNone_0 : decode cX7_orNone 0 = .ok (.iload_n 0, 1) := by decide +kernel
theorem dX7_orNone_1 : decode cX7_orNone 1 = .ok (.ldc_w 287, 3) := by decide +kernel
theorem dX7_orNone_4 : decode cX7_orNone 4 = .ok (.if_icmp .lt 7, 3) := by decide +kernel
theorem dX7_orNone_7 : decode cX7_orNone 7 = .ok (.iconst (-1), 1) := by decide +kernel
theorem dX7_orNone_8 : decode cX7_orNone 8 = .ok (.goto 4, 3) := by decide +kernel
theorem dX7_orNone_11 : decode cX7_orNone 11 = .ok (.iload_n 0, 1) := by decide +kernel
theorem dX7_orNone_12 : decode cX7_orNone 12 = .ok (.ireturn, 1) := by decide +kernel
theorem dJ9_min_7cf53_0 : decode cJ9_min_7cf53 0 = .ok (.iload_n 0, 1) := by decide +kernel
theorem dJ9_min_7cf53_1 : decode cJ9_min_7cf53 1 = .ok (.iload_n 1, 1) := by decide +kernel
theorem dJ9_min_7cf53_2 : decode cJ9_min_7cf53 2 = .ok (.if_icmp .gt 7, 3) := by decide +kernel
theorem dJ9_min_7cf53_5 : decode cJ9_min_7cf53 5 = .ok (.iload_n 0, 1) := by decide +kernel
theorem dJ9_min_7cf53_6 : decode cJ9_min_7cf53 6 = .ok (.goto 4, 3) := by decide +kernel
theorem dJ9_min_7cf53_9 : decode cJ9_min_7cf53 9 = .ok (.iload_n 1, 1) := by decide +kernel
theorem dJ9_min_7cf53_10 : decode cJ9_min_7cf53 10 = .ok (.ireturn, 1) := by decide +kernel
theorem dJ7_fill_53178_0 : decode cJ7_fill_53178 0 = .ok (.iconst 0, 1) := by decide +kernel
theorem dJ7_fill_53178_1 : decode cJ7_fill_53178 1 = .ok (.istore_n 2, 1) := by decide +kernel
theorem dJ7_fill_53178_2 : decode cJ7_fill_53178 2 = .ok (.aload_n 0, 1) := by decide +kernel
theorem dJ7_fill_53178_3 : decode cJ7_fill_53178 3 = .ok (.arraylength, 1) := by decide +kernel
theorem dJ7_fill_53178_4 : decode cJ7_fill_53178 4 = .ok (.istore_n 3, 1) := by decide +kernel
theorem dJ7_fill_53178_5 : decode cJ7_fill_53178 5 = .ok (.iload_n 2, 1) := by decide +kernel
theorem dJ7_fill_53178_6 : decode cJ7_fill_53178 6 = .ok (.iload_n 3, 1) := by decide +kernel
theorem dJ7_fill_53178_7 : decode cJ7_fill_53178 7 = .ok (.if_icmp .ge 13, 3) := by decide +kernel
theorem dJ7_fill_53178_10 : decode cJ7_fill_53178 10 = .ok (.aload_n 0, 1) := by decide +kernel
theorem dJ7_fill_53178_11 : decode cJ7_fill_53178 11 = .ok (.iload_n 2, 1) := by decide +kernel
theorem dJ7_fill_53178_12 : decode cJ7_fill_53178 12 = .ok (.iload_n 1, 1) := by decide +kernel
theorem dJ7_fill_53178_13 : decode cJ7_fill_53178 13 = .ok (.iastore, 1) := by decide +kernel
theorem dJ7_fill_53178_14 : decode cJ7_fill_53178 14 = .ok (.iinc 2 1, 3) := by decide +kernel
theorem dJ7_fill_53178_17 : decode cJ7_fill_53178 17 = .ok (.goto (-12), 3) := by decide +kernel
theorem dJ7_fill_53178_20 : decode cJ7_fill_53178 20 = .ok (.return_, 1) := by decide +kernel
