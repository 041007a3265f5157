theorem d_Let_init_0 : decode b_Let_init 0 = .ok (.aload_n 0, 1) := by decide +kernel
theorem d_Let_init_1 : decode b_Let_init 1 = .ok (.invokespecial 3, 3) := by decide +kernel
theorem d_Let_init_4 : decode b_Let_init 4 = .ok (.aload_n 0, 1) := by decide +kernel
theorem d_Let_init_5 : decode b_Let_init 5 = .ok (.bipush 96, 2) := by decide +kernel
theorem d_Let_init_7 : decode b_Let_init 7 = .ok (.newarray .int, 2) := by decide +kernel
theorem d_Let_init_9 : decode b_Let_init 9 = .ok (.putfield 9, 3) := by decide +kernel
theorem d_Let_init_12 : decode b_Let_init 12 = .ok (.aload_n 0, 1) := by decide +kernel
theorem d_Let_init_13 : decode b_Let_init 13 = .ok (.iconst 3, 1) := by decide +kernel
theorem d_Let_init_14 : decode b_Let_init 14 = .ok (.newarray .int, 2) := by decide +kernel
theorem d_Let_init_16 : decode b_Let_init 16 = .ok (.putfield 15, 3) := by decide +kernel
theorem d_Let_init_19 : decode b_Let_init 19 = .ok (.return_, 1) := by decide +kernel
theorem d_Let_isFull_0 : decode b_Let_isFull 0 = .ok (.aload_n 0, 1) := by decide +kernel
theorem d_Let_isFull_1 : decode b_Let_isFull 1 = .ok (.getfield 18, 3) := by decide +kernel
theorem d_Let_isFull_4 : decode b_Let_isFull 4 = .ok (.bipush 96, 2) := by decide +kernel
theorem d_Let_isFull_6 : decode b_Let_isFull 6 = .ok (.if_icmp .lt 7, 3) := by decide +kernel
theorem d_Let_isFull_9 : decode b_Let_isFull 9 = .ok (.iconst 1, 1) := by decide +kernel
theorem d_Let_isFull_10 : decode b_Let_isFull 10 = .ok (.goto 4, 3) := by decide +kernel
theorem d_Let_isFull_13 : decode b_Let_isFull 13 = .ok (.iconst 0, 1) := by decide +kernel
theorem d_Let_isFull_14 : decode b_Let_isFull 14 = .ok (.ireturn, 1) := by decide +kernel
theorem d_Let_put_0 : decode b_Let_put 0 = .ok (.aload_n 0, 1) := by decide +kernel
theorem d_Let_put_1 : decode b_Let_put 1 = .ok (.invokevirtual 22, 3) := by decide +kernel
theorem d_Let_put_4 : decode b_Let_put 4 = .ok (.ifCond .ne 23, 3) := by decide +kernel
theorem d_Let_put_7 : decode b_Let_put 7 = .ok (.aload_n 0, 1) := by decide +kernel
theorem d_Let_put_8 : decode b_Let_put 8 = .ok (.getfield 9, 3) := by decide +kernel
theorem d_Let_put_11 : decode b_Let_put 11 = .ok (.aload_n 0, 1) := by decide +kernel
theorem d_Let_put_12 : decode b_Let_put 12 = .ok (.getfield 18, 3) := by decide +kernel
theorem d_Let_put_15 : decode b_Let_put 15 = .ok (.iload_n 1, 1) := by decide +kernel
theorem d_Let_put_16 : decode b_Let_put 16 = .ok (.iastore, 1) := by decide +kernel
theorem d_Let_put_17 : decode b_Let_put 17 = .ok (.aload_n 0, 1) := by decide +kernel
theorem d_Let_put_18 : decode b_Let_put 18 = .ok (.dup, 1) := by decide +kernel
theorem d_Let_put_19 : decode b_Let_put 19 = .ok (.getfield 18, 3) := by decide +kernel
theorem d_Let_put_22 : decode b_Let_put 22 = .ok (.iconst 1, 1) := by decide +kernel
theorem d_Let_put_23 : decode b_Let_put 23 = .ok (.iadd, 1) := by decide +kernel
theorem d_Let_put_24 : decode b_Let_put 24 = .ok (.putfield 18, 3) := by decide +kernel
theorem d_Let_put_27 : decode b_Let_put 27 = .ok (.aload_n 0, 1) := by decide +kernel
theorem d_Let_put_28 : decode b_Let_put 28 = .ok (.getfield 18, 3) := by decide +kernel
theorem d_Let_put_31 : decode b_Let_put 31 = .ok (.ireturn, 1) := by decide +kernel
theorem d_Let_clear_0 : decode b_Let_clear 0 = .ok (.aload_n 0, 1) := by decide +kernel
theorem d_Let_clear_1 : decode b_Let_clear 1 = .ok (.iconst 0, 1) := by decide +kernel
theorem d_Let_clear_2 : decode b_Let_clear 2 = .ok (.putfield 18, 3) := by decide +kernel
theorem d_Let_clear_5 : decode b_Let_clear 5 = .ok (.return_, 1) := by decide +kernel
theorem d_Let_readInto_0 : decode b_Let_readInto 0 = .ok (.aload_n 0, 1) := by decide +kernel
theorem d_Let_readInto_1 : decode b_Let_readInto 1 = .ok (.invokevirtual 26, 3) := by decide +kernel
theorem d_Let_readInto_4 : decode b_Let_readInto 4 = .ok (.istore_n 2, 1) := by decide +kernel
theorem d_Let_readInto_5 : decode b_Let_readInto 5 = .ok (.iload_n 2, 1) := by decide +kernel
theorem d_Let_readInto_6 : decode b_Let_readInto 6 = .ok (.ifCond .ge 5, 3) := by decide +kernel
theorem d_Let_readInto_9 : decode b_Let_readInto 9 = .ok (.iload_n 2, 1) := by decide +kernel
theorem d_Let_readInto_10 : decode b_Let_readInto 10 = .ok (.ireturn, 1) := by decide +kernel
theorem d_Let_readInto_11 : decode b_Let_readInto 11 = .ok (.aload_n 0, 1) := by decide +kernel
theorem d_Let_readInto_12 : decode b_Let_readInto 12 = .ok (.iconst 0, 1) := by decide +kernel
theorem d_Let_readInto_13 : decode b_Let_readInto 13 = .ok (.putfield 30, 3) := by decide +kernel
theorem d_Let_readInto_16 : decode b_Let_readInto 16 = .ok (.iconst 0, 1) := by decide +kernel
theorem d_Let_readInto_17 : decode b_Let_readInto 17 = .ok (.istore_n 3, 1) := by decide +kernel
theorem d_Let_readInto_18 : decode b_Let_readInto 18 = .ok (.iload_n 3, 1) := by decide +kernel
theorem d_Let_readInto_19 : decode b_Let_readInto 19 = .ok (.iload_n 2, 1) := by decide +kernel
theorem d_Let_readInto_20 : decode b_Let_readInto 20 = .ok (.if_icmp .ge 37, 3) := by decide +kernel
theorem d_Let_readInto_23 : decode b_Let_readInto 23 = .ok (.aload_n 0, 1) := by decide +kernel
theorem d_Let_readInto_24 : decode b_Let_readInto 24 = .ok (.getfield 30, 3) := by decide +kernel
theorem d_Let_readInto_27 : decode b_Let_readInto 27 = .ok (.istore 4, 2) := by decide +kernel
theorem d_Let_readInto_29 : decode b_Let_readInto 29 = .ok (.aload_n 0, 1) := by decide +kernel
theorem d_Let_readInto_30 : decode b_Let_readInto 30 = .ok (.invokevirtual 33, 3) := by decide +kernel
theorem d_Let_readInto_33 : decode b_Let_readInto 33 = .ok (.ifCond .eq 11, 3) := by decide +kernel
theorem d_Let_readInto_36 : decode b_Let_readInto 36 = .ok (.aload_n 0, 1) := by decide +kernel
theorem d_Let_readInto_37 : decode b_Let_readInto 37 = .ok (.aload_n 1, 1) := by decide +kernel
theorem d_Let_readInto_38 : decode b_Let_readInto 38 = .ok (.invokevirtual 36, 3) := by decide +kernel
theorem d_Let_readInto_41 : decode b_Let_readInto 41 = .ok (.ifCond .ne 10, 3) := by decide +kernel
theorem d_Let_readInto_44 : decode b_Let_readInto 44 = .ok (.sipush (-2000), 3) := by decide +kernel
theorem d_Let_readInto_47 : decode b_Let_readInto 47 = .ok (.iload 4, 2) := by decide +kernel
theorem d_Let_readInto_49 : decode b_Let_readInto 49 = .ok (.isub, 1) := by decide +kernel
theorem d_Let_readInto_50 : decode b_Let_readInto 50 = .ok (.ireturn, 1) := by decide +kernel
theorem d_Let_readInto_51 : decode b_Let_readInto 51 = .ok (.iinc 3 1, 3) := by decide +kernel
theorem d_Let_readInto_54 : decode b_Let_readInto 54 = .ok (.goto (-36), 3) := by decide +kernel
theorem d_Let_readInto_57 : decode b_Let_readInto 57 = .ok (.iload_n 2, 1) := by decide +kernel
theorem d_Let_readInto_58 : decode b_Let_readInto 58 = .ok (.ireturn, 1) := by decide +kernel
theorem d_Let_readAll_0 : decode b_Let_readAll 0 = .ok (.aload_n 0, 1) := by decide +kernel
theorem d_Let_readAll_1 : decode b_Let_readAll 1 = .ok (.iconst 0, 1) := by decide +kernel
theorem d_Let_readAll_2 : decode b_Let_readAll 2 = .ok (.putfield 30, 3) := by decide +kernel
theorem d_Let_readAll_5 : decode b_Let_readAll 5 = .ok (.iconst 0, 1) := by decide +kernel
theorem d_Let_readAll_6 : decode b_Let_readAll 6 = .ok (.istore_n 1, 1) := by decide +kernel
theorem d_Let_readAll_7 : decode b_Let_readAll 7 = .ok (.aload_n 0, 1) := by decide +kernel
theorem d_Let_readAll_8 : decode b_Let_readAll 8 = .ok (.invokevirtual 33, 3) := by decide +kernel
theorem d_Let_readAll_11 : decode b_Let_readAll 11 = .ok (.ifCond .ne 12, 3) := by decide +kernel
theorem d_Let_readAll_14 : decode b_Let_readAll 14 = .ok (.sipush (-1000), 3) := by decide +kernel
theorem d_Let_readAll_17 : decode b_Let_readAll 17 = .ok (.aload_n 0, 1) := by decide +kernel
theorem d_Let_readAll_18 : decode b_Let_readAll 18 = .ok (.getfield 30, 3) := by decide +kernel
theorem d_Let_readAll_21 : decode b_Let_readAll 21 = .ok (.isub, 1) := by decide +kernel
theorem d_Let_readAll_22 : decode b_Let_readAll 22 = .ok (.ireturn, 1) := by decide +kernel
theorem d_Let_readAll_23 : decode b_Let_readAll 23 = .ok (.iinc 1 1, 3) := by decide +kernel
theorem d_Let_readAll_26 : decode b_Let_readAll 26 = .ok (.aload_n 0, 1) := by decide +kernel
theorem d_Let_readAll_27 : decode b_Let_readAll 27 = .ok (.getfield 30, 3) := by decide +kernel
theorem d_Let_readAll_30 : decode b_Let_readAll 30 = .ok (.aload_n 0, 1) := by decide +kernel
theorem d_Let_readAll_31 : decode b_Let_readAll 31 = .ok (.getfield 18, 3) := by decide +kernel
theorem d_Let_readAll_34 : decode b_Let_readAll 34 = .ok (.if_icmp .ge 9, 3) := by decide +kernel
theorem d_Let_readAll_37 : decode b_Let_readAll 37 = .ok (.iload_n 1, 1) := by decide +kernel
theorem d_Let_readAll_38 : decode b_Let_readAll 38 = .ok (.bipush 96, 2) := by decide +kernel
theorem d_Let_readAll_40 : decode b_Let_readAll 40 = .ok (.if_icmp .lt (-33), 3) := by decide +kernel
theorem d_Let_readAll_43 : decode b_Let_readAll 43 = .ok (.iload_n 1, 1) := by decide +kernel
theorem d_Let_readAll_44 : decode b_Let_readAll 44 = .ok (.ireturn, 1) := by decide +kernel
theorem d_Let_putStatement_0 : decode b_Let_putStatement 0 = .ok (.aload_n 0, 1) := by decide +kernel
theorem d_Let_putStatement_1 : decode b_Let_putStatement 1 = .ok (.getfield 40, 3) := by decide +kernel
theorem d_Let_putStatement_4 : decode b_Let_putStatement 4 = .ok (.iconst (-1), 1) := by decide +kernel
theorem d_Let_putStatement_5 : decode b_Let_putStatement 5 = .ok (.if_icmp .ne 20, 3) := by decide +kernel
theorem d_Let_putStatement_8 : decode b_Let_putStatement 8 = .ok (.aload_n 1, 1) := by decide +kernel
theorem d_Let_putStatement_9 : decode b_Let_putStatement 9 = .ok (.aload_n 0, 1) := by decide +kernel
theorem d_Let_putStatement_10 : decode b_Let_putStatement 10 = .ok (.getfield 15, 3) := by decide +kernel
theorem d_Let_putStatement_13 : decode b_Let_putStatement 13 = .ok (.iconst 0, 1) := by decide +kernel
theorem d_Let_putStatement_14 : decode b_Let_putStatement 14 = .ok (.iaload, 1) := by decide +kernel
theorem d_Let_putStatement_15 : decode b_Let_putStatement 15 = .ok (.aload_n 0, 1) := by decide +kernel
theorem d_Let_putStatement_16 : decode b_Let_putStatement 16 = .ok (.getfield 15, 3) := by decide +kernel
theorem d_Let_putStatement_19 : decode b_Let_putStatement 19 = .ok (.iconst 1, 1) := by decide +kernel
theorem d_Let_putStatement_20 : decode b_Let_putStatement 20 = .ok (.iaload, 1) := by decide +kernel
theorem d_Let_putStatement_21 : decode b_Let_putStatement 21 = .ok (.invokevirtual 43, 3) := by decide +kernel
theorem d_Let_putStatement_24 : decode b_Let_putStatement 24 = .ok (.ireturn, 1) := by decide +kernel
theorem d_Let_putStatement_25 : decode b_Let_putStatement 25 = .ok (.aload_n 1, 1) := by decide +kernel
theorem d_Let_putStatement_26 : decode b_Let_putStatement 26 = .ok (.aload_n 0, 1) := by decide +kernel
theorem d_Let_putStatement_27 : decode b_Let_putStatement 27 = .ok (.getfield 40, 3) := by decide +kernel
theorem d_Let_putStatement_30 : decode b_Let_putStatement 30 = .ok (.aload_n 0, 1) := by decide +kernel
theorem d_Let_putStatement_31 : decode b_Let_putStatement 31 = .ok (.getfield 15, 3) := by decide +kernel
theorem d_Let_putStatement_34 : decode b_Let_putStatement 34 = .ok (.iconst 0, 1) := by decide +kernel
theorem d_Let_putStatement_35 : decode b_Let_putStatement 35 = .ok (.iaload, 1) := by decide +kernel
theorem d_Let_putStatement_36 : decode b_Let_putStatement 36 = .ok (.aload_n 0, 1) := by decide +kernel
theorem d_Let_putStatement_37 : decode b_Let_putStatement 37 = .ok (.getfield 15, 3) := by decide +kernel
theorem d_Let_putStatement_40 : decode b_Let_putStatement 40 = .ok (.iconst 1, 1) := by decide +kernel
theorem d_Let_putStatement_41 : decode b_Let_putStatement 41 = .ok (.iaload, 1) := by decide +kernel
theorem d_Let_putStatement_42 : decode b_Let_putStatement 42 = .ok (.aload_n 0, 1) := by decide +kernel
theorem d_Let_putStatement_43 : decode b_Let_putStatement 43 = .ok (.getfield 15, 3) := by decide +kernel
theorem d_Let_putStatement_46 : decode b_Let_putStatement 46 = .ok (.iconst 2, 1) := by decide +kernel
theorem d_Let_putStatement_47 : decode b_Let_putStatement 47 = .ok (.iaload, 1) := by decide +kernel
theorem d_Let_putStatement_48 : decode b_Let_putStatement 48 = .ok (.invokevirtual 49, 3) := by decide +kernel
theorem d_Let_putStatement_51 : decode b_Let_putStatement 51 = .ok (.ireturn, 1) := by decide +kernel
theorem d_Let_readStatement_0 : decode b_Let_readStatement 0 = .ok (.aload_n 0, 1) := by decide +kernel
theorem d_Let_readStatement_1 : decode b_Let_readStatement 1 = .ok (.iconst (-1), 1) := by decide +kernel
theorem d_Let_readStatement_2 : decode b_Let_readStatement 2 = .ok (.putfield 40, 3) := by decide +kernel
theorem d_Let_readStatement_5 : decode b_Let_readStatement 5 = .ok (.aload_n 0, 1) := by decide +kernel
theorem d_Let_readStatement_6 : decode b_Let_readStatement 6 = .ok (.bipush 115, 2) := by decide +kernel
theorem d_Let_readStatement_8 : decode b_Let_readStatement 8 = .ok (.invokevirtual 53, 3) := by decide +kernel
theorem d_Let_readStatement_11 : decode b_Let_readStatement 11 = .ok (.ifCond .eq 52, 3) := by decide +kernel
theorem d_Let_readStatement_14 : decode b_Let_readStatement 14 = .ok (.aload_n 0, 1) := by decide +kernel
theorem d_Let_readStatement_15 : decode b_Let_readStatement 15 = .ok (.invokevirtual 57, 3) := by decide +kernel
theorem d_Let_readStatement_18 : decode b_Let_readStatement 18 = .ok (.ifCond .eq 43, 3) := by decide +kernel
theorem d_Let_readStatement_21 : decode b_Let_readStatement 21 = .ok (.aload_n 0, 1) := by decide +kernel
theorem d_Let_readStatement_22 : decode b_Let_readStatement 22 = .ok (.iconst 0, 1) := by decide +kernel
theorem d_Let_readStatement_23 : decode b_Let_readStatement 23 = .ok (.iconst 1, 1) := by decide +kernel
theorem d_Let_readStatement_24 : decode b_Let_readStatement 24 = .ok (.invokevirtual 60, 3) := by decide +kernel
theorem d_Let_readStatement_27 : decode b_Let_readStatement 27 = .ok (.ifCond .eq 34, 3) := by decide +kernel
theorem d_Let_readStatement_30 : decode b_Let_readStatement 30 = .ok (.aload_n 0, 1) := by decide +kernel
theorem d_Let_readStatement_31 : decode b_Let_readStatement 31 = .ok (.iconst 1, 1) := by decide +kernel
theorem d_Let_readStatement_32 : decode b_Let_readStatement 32 = .ok (.iconst 1, 1) := by decide +kernel
theorem d_Let_readStatement_33 : decode b_Let_readStatement 33 = .ok (.invokevirtual 60, 3) := by decide +kernel
theorem d_Let_readStatement_36 : decode b_Let_readStatement 36 = .ok (.ifCond .eq 25, 3) := by decide +kernel
theorem d_Let_readStatement_39 : decode b_Let_readStatement 39 = .ok (.aload_n 0, 1) := by decide +kernel
theorem d_Let_readStatement_40 : decode b_Let_readStatement 40 = .ok (.iconst 2, 1) := by decide +kernel
theorem d_Let_readStatement_41 : decode b_Let_readStatement 41 = .ok (.iconst 2, 1) := by decide +kernel
theorem d_Let_readStatement_42 : decode b_Let_readStatement 42 = .ok (.invokevirtual 60, 3) := by decide +kernel
theorem d_Let_readStatement_45 : decode b_Let_readStatement 45 = .ok (.ifCond .eq 16, 3) := by decide +kernel
theorem d_Let_readStatement_48 : decode b_Let_readStatement 48 = .ok (.aload_n 0, 1) := by decide +kernel
theorem d_Let_readStatement_49 : decode b_Let_readStatement 49 = .ok (.bipush 59, 2) := by decide +kernel
theorem d_Let_readStatement_51 : decode b_Let_readStatement 51 = .ok (.invokevirtual 53, 3) := by decide +kernel
theorem d_Let_readStatement_54 : decode b_Let_readStatement 54 = .ok (.ifCond .eq 7, 3) := by decide +kernel
theorem d_Let_readStatement_57 : decode b_Let_readStatement 57 = .ok (.iconst 1, 1) := by decide +kernel
theorem d_Let_readStatement_58 : decode b_Let_readStatement 58 = .ok (.goto 4, 3) := by decide +kernel
theorem d_Let_readStatement_61 : decode b_Let_readStatement 61 = .ok (.iconst 0, 1) := by decide +kernel
theorem d_Let_readStatement_62 : decode b_Let_readStatement 62 = .ok (.ireturn, 1) := by decide +kernel
theorem d_Let_readStatement_63 : decode b_Let_readStatement 63 = .ok (.aload_n 0, 1) := by decide +kernel
theorem d_Let_readStatement_64 : decode b_Let_readStatement 64 = .ok (.bipush 112, 2) := by decide +kernel
theorem d_Let_readStatement_66 : decode b_Let_readStatement 66 = .ok (.invokevirtual 53, 3) := by decide +kernel
theorem d_Let_readStatement_69 : decode b_Let_readStatement 69 = .ok (.ifCond .eq 34, 3) := by decide +kernel
theorem d_Let_readStatement_72 : decode b_Let_readStatement 72 = .ok (.aload_n 0, 1) := by decide +kernel
theorem d_Let_readStatement_73 : decode b_Let_readStatement 73 = .ok (.iconst 0, 1) := by decide +kernel
theorem d_Let_readStatement_74 : decode b_Let_readStatement 74 = .ok (.iconst 2, 1) := by decide +kernel
theorem d_Let_readStatement_75 : decode b_Let_readStatement 75 = .ok (.invokevirtual 60, 3) := by decide +kernel
theorem d_Let_readStatement_78 : decode b_Let_readStatement 78 = .ok (.ifCond .eq 25, 3) := by decide +kernel
theorem d_Let_readStatement_81 : decode b_Let_readStatement 81 = .ok (.aload_n 0, 1) := by decide +kernel
theorem d_Let_readStatement_82 : decode b_Let_readStatement 82 = .ok (.iconst 1, 1) := by decide +kernel
theorem d_Let_readStatement_83 : decode b_Let_readStatement 83 = .ok (.iconst 2, 1) := by decide +kernel
theorem d_Let_readStatement_84 : decode b_Let_readStatement 84 = .ok (.invokevirtual 60, 3) := by decide +kernel
theorem d_Let_readStatement_87 : decode b_Let_readStatement 87 = .ok (.ifCond .eq 16, 3) := by decide +kernel
theorem d_Let_readStatement_90 : decode b_Let_readStatement 90 = .ok (.aload_n 0, 1) := by decide +kernel
theorem d_Let_readStatement_91 : decode b_Let_readStatement 91 = .ok (.bipush 59, 2) := by decide +kernel
theorem d_Let_readStatement_93 : decode b_Let_readStatement 93 = .ok (.invokevirtual 53, 3) := by decide +kernel
theorem d_Let_readStatement_96 : decode b_Let_readStatement 96 = .ok (.ifCond .eq 7, 3) := by decide +kernel
theorem d_Let_readStatement_99 : decode b_Let_readStatement 99 = .ok (.iconst 1, 1) := by decide +kernel
theorem d_Let_readStatement_100 : decode b_Let_readStatement 100 = .ok (.goto 4, 3) := by decide +kernel
theorem d_Let_readStatement_103 : decode b_Let_readStatement 103 = .ok (.iconst 0, 1) := by decide +kernel
theorem d_Let_readStatement_104 : decode b_Let_readStatement 104 = .ok (.ireturn, 1) := by decide +kernel
theorem d_Let_readKind_0 : decode b_Let_readKind 0 = .ok (.aload_n 0, 1) := by decide +kernel
theorem d_Let_readKind_1 : decode b_Let_readKind 1 = .ok (.aload_n 0, 1) := by decide +kernel
theorem d_Let_readKind_2 : decode b_Let_readKind 2 = .ok (.getfield 30, 3) := by decide +kernel
theorem d_Let_readKind_5 : decode b_Let_readKind 5 = .ok (.aload_n 0, 1) := by decide +kernel
theorem d_Let_readKind_6 : decode b_Let_readKind 6 = .ok (.getfield 18, 3) := by decide +kernel
theorem d_Let_readKind_9 : decode b_Let_readKind 9 = .ok (.if_icmp .ge 21, 3) := by decide +kernel
theorem d_Let_readKind_12 : decode b_Let_readKind 12 = .ok (.ldc 63, 2) := by decide +kernel
theorem d_Let_readKind_14 : decode b_Let_readKind 14 = .ok (.aload_n 0, 1) := by decide +kernel
theorem d_Let_readKind_15 : decode b_Let_readKind 15 = .ok (.getfield 9, 3) := by decide +kernel
theorem d_Let_readKind_18 : decode b_Let_readKind 18 = .ok (.aload_n 0, 1) := by decide +kernel
theorem d_Let_readKind_19 : decode b_Let_readKind 19 = .ok (.getfield 30, 3) := by decide +kernel
theorem d_Let_readKind_22 : decode b_Let_readKind 22 = .ok (.iaload, 1) := by decide +kernel
theorem d_Let_readKind_23 : decode b_Let_readKind 23 = .ok (.i2c, 1) := by decide +kernel
theorem d_Let_readKind_24 : decode b_Let_readKind 24 = .ok (.invokevirtual 65, 3) := by decide +kernel
theorem d_Let_readKind_27 : decode b_Let_readKind 27 = .ok (.goto 4, 3) := by decide +kernel
theorem d_Let_readKind_30 : decode b_Let_readKind 30 = .ok (.iconst (-1), 1) := by decide +kernel
theorem d_Let_readKind_31 : decode b_Let_readKind 31 = .ok (.putfield 40, 3) := by decide +kernel
theorem d_Let_readKind_34 : decode b_Let_readKind 34 = .ok (.aload_n 0, 1) := by decide +kernel
theorem d_Let_readKind_35 : decode b_Let_readKind 35 = .ok (.getfield 40, 3) := by decide +kernel
theorem d_Let_readKind_38 : decode b_Let_readKind 38 = .ok (.ifCond .ge 5, 3) := by decide +kernel
theorem d_Let_readKind_41 : decode b_Let_readKind 41 = .ok (.iconst 0, 1) := by decide +kernel
theorem d_Let_readKind_42 : decode b_Let_readKind 42 = .ok (.ireturn, 1) := by decide +kernel
theorem d_Let_readKind_43 : decode b_Let_readKind 43 = .ok (.aload_n 0, 1) := by decide +kernel
theorem d_Let_readKind_44 : decode b_Let_readKind 44 = .ok (.dup, 1) := by decide +kernel
theorem d_Let_readKind_45 : decode b_Let_readKind 45 = .ok (.getfield 30, 3) := by decide +kernel
theorem d_Let_readKind_48 : decode b_Let_readKind 48 = .ok (.iconst 1, 1) := by decide +kernel
theorem d_Let_readKind_49 : decode b_Let_readKind 49 = .ok (.iadd, 1) := by decide +kernel
theorem d_Let_readKind_50 : decode b_Let_readKind 50 = .ok (.putfield 30, 3) := by decide +kernel
theorem d_Let_readKind_53 : decode b_Let_readKind 53 = .ok (.iconst 1, 1) := by decide +kernel
theorem d_Let_readKind_54 : decode b_Let_readKind 54 = .ok (.ireturn, 1) := by decide +kernel
theorem d_Let_readNumber_0 : decode b_Let_readNumber 0 = .ok (.aload_n 0, 1) := by decide +kernel
theorem d_Let_readNumber_1 : decode b_Let_readNumber 1 = .ok (.bipush 45, 2) := by decide +kernel
theorem d_Let_readNumber_3 : decode b_Let_readNumber 3 = .ok (.invokevirtual 53, 3) := by decide +kernel
theorem d_Let_readNumber_6 : decode b_Let_readNumber 6 = .ok (.istore_n 3, 1) := by decide +kernel
theorem d_Let_readNumber_7 : decode b_Let_readNumber 7 = .ok (.iload_n 3, 1) := by decide +kernel
theorem d_Let_readNumber_8 : decode b_Let_readNumber 8 = .ok (.ifCond .ne 12, 3) := by decide +kernel
theorem d_Let_readNumber_11 : decode b_Let_readNumber 11 = .ok (.aload_n 0, 1) := by decide +kernel
theorem d_Let_readNumber_12 : decode b_Let_readNumber 12 = .ok (.bipush 43, 2) := by decide +kernel
theorem d_Let_readNumber_14 : decode b_Let_readNumber 14 = .ok (.invokevirtual 53, 3) := by decide +kernel
theorem d_Let_readNumber_17 : decode b_Let_readNumber 17 = .ok (.ifCond .eq 10, 3) := by decide +kernel
theorem d_Let_readNumber_20 : decode b_Let_readNumber 20 = .ok (.aload_n 0, 1) := by decide +kernel
theorem d_Let_readNumber_21 : decode b_Let_readNumber 21 = .ok (.invokevirtual 71, 3) := by decide +kernel
theorem d_Let_readNumber_24 : decode b_Let_readNumber 24 = .ok (.ifCond .ne 5, 3) := by decide +kernel
theorem d_Let_readNumber_27 : decode b_Let_readNumber 27 = .ok (.iconst 0, 1) := by decide +kernel
theorem d_Let_readNumber_28 : decode b_Let_readNumber 28 = .ok (.ireturn, 1) := by decide +kernel
theorem d_Let_readNumber_29 : decode b_Let_readNumber 29 = .ok (.iconst 0, 1) := by decide +kernel
theorem d_Let_readNumber_30 : decode b_Let_readNumber 30 = .ok (.istore 4, 2) := by decide +kernel
theorem d_Let_readNumber_32 : decode b_Let_readNumber 32 = .ok (.iconst 0, 1) := by decide +kernel
theorem d_Let_readNumber_33 : decode b_Let_readNumber 33 = .ok (.istore 5, 2) := by decide +kernel
theorem d_Let_readNumber_35 : decode b_Let_readNumber 35 = .ok (.iload 5, 2) := by decide +kernel
theorem d_Let_readNumber_37 : decode b_Let_readNumber 37 = .ok (.iload_n 2, 1) := by decide +kernel
theorem d_Let_readNumber_38 : decode b_Let_readNumber 38 = .ok (.if_icmp .ge 46, 3) := by decide +kernel
theorem d_Let_readNumber_41 : decode b_Let_readNumber 41 = .ok (.aload_n 0, 1) := by decide +kernel
theorem d_Let_readNumber_42 : decode b_Let_readNumber 42 = .ok (.invokevirtual 71, 3) := by decide +kernel
theorem d_Let_readNumber_45 : decode b_Let_readNumber 45 = .ok (.ifCond .eq 39, 3) := by decide +kernel
theorem d_Let_readNumber_48 : decode b_Let_readNumber 48 = .ok (.iload 4, 2) := by decide +kernel
theorem d_Let_readNumber_50 : decode b_Let_readNumber 50 = .ok (.bipush 10, 2) := by decide +kernel
theorem d_Let_readNumber_52 : decode b_Let_readNumber 52 = .ok (.imul, 1) := by decide +kernel
theorem d_Let_readNumber_53 : decode b_Let_readNumber 53 = .ok (.aload_n 0, 1) := by decide +kernel
theorem d_Let_readNumber_54 : decode b_Let_readNumber 54 = .ok (.getfield 9, 3) := by decide +kernel
theorem d_Let_readNumber_57 : decode b_Let_readNumber 57 = .ok (.aload_n 0, 1) := by decide +kernel
theorem d_Let_readNumber_58 : decode b_Let_readNumber 58 = .ok (.getfield 30, 3) := by decide +kernel
theorem d_Let_readNumber_61 : decode b_Let_readNumber 61 = .ok (.iaload, 1) := by decide +kernel
theorem d_Let_readNumber_62 : decode b_Let_readNumber 62 = .ok (.iadd, 1) := by decide +kernel
theorem d_Let_readNumber_63 : decode b_Let_readNumber 63 = .ok (.bipush 48, 2) := by decide +kernel
theorem d_Let_readNumber_65 : decode b_Let_readNumber 65 = .ok (.isub, 1) := by decide +kernel
theorem d_Let_readNumber_66 : decode b_Let_readNumber 66 = .ok (.istore 4, 2) := by decide +kernel
theorem d_Let_readNumber_68 : decode b_Let_readNumber 68 = .ok (.aload_n 0, 1) := by decide +kernel
theorem d_Let_readNumber_69 : decode b_Let_readNumber 69 = .ok (.dup, 1) := by decide +kernel
theorem d_Let_readNumber_70 : decode b_Let_readNumber 70 = .ok (.getfield 30, 3) := by decide +kernel
theorem d_Let_readNumber_73 : decode b_Let_readNumber 73 = .ok (.iconst 1, 1) := by decide +kernel
theorem d_Let_readNumber_74 : decode b_Let_readNumber 74 = .ok (.iadd, 1) := by decide +kernel
theorem d_Let_readNumber_75 : decode b_Let_readNumber 75 = .ok (.putfield 30, 3) := by decide +kernel
theorem d_Let_readNumber_78 : decode b_Let_readNumber 78 = .ok (.iinc 5 1, 3) := by decide +kernel
theorem d_Let_readNumber_81 : decode b_Let_readNumber 81 = .ok (.goto (-46), 3) := by decide +kernel
theorem d_Let_readNumber_84 : decode b_Let_readNumber 84 = .ok (.aload_n 0, 1) := by decide +kernel
theorem d_Let_readNumber_85 : decode b_Let_readNumber 85 = .ok (.getfield 15, 3) := by decide +kernel
theorem d_Let_readNumber_88 : decode b_Let_readNumber 88 = .ok (.iload_n 1, 1) := by decide +kernel
theorem d_Let_readNumber_89 : decode b_Let_readNumber 89 = .ok (.iload_n 3, 1) := by decide +kernel
theorem d_Let_readNumber_90 : decode b_Let_readNumber 90 = .ok (.ifCond .eq 9, 3) := by decide +kernel
theorem d_Let_readNumber_93 : decode b_Let_readNumber 93 = .ok (.iload 4, 2) := by decide +kernel
theorem d_Let_readNumber_95 : decode b_Let_readNumber 95 = .ok (.ineg, 1) := by decide +kernel
theorem d_Let_readNumber_96 : decode b_Let_readNumber 96 = .ok (.goto 5, 3) := by decide +kernel
theorem d_Let_readNumber_99 : decode b_Let_readNumber 99 = .ok (.iload 4, 2) := by decide +kernel
theorem d_Let_readNumber_101 : decode b_Let_readNumber 101 = .ok (.iastore, 1) := by decide +kernel
theorem d_Let_readNumber_102 : decode b_Let_readNumber 102 = .ok (.iconst 1, 1) := by decide +kernel
theorem d_Let_readNumber_103 : decode b_Let_readNumber 103 = .ok (.ireturn, 1) := by decide +kernel
theorem d_Let_takes_0 : decode b_Let_takes 0 = .ok (.aload_n 0, 1) := by decide +kernel
theorem d_Let_takes_1 : decode b_Let_takes 1 = .ok (.getfield 30, 3) := by decide +kernel
theorem d_Let_takes_4 : decode b_Let_takes 4 = .ok (.aload_n 0, 1) := by decide +kernel
theorem d_Let_takes_5 : decode b_Let_takes 5 = .ok (.getfield 18, 3) := by decide +kernel
theorem d_Let_takes_8 : decode b_Let_takes 8 = .ok (.if_icmp .ge 20, 3) := by decide +kernel
theorem d_Let_takes_11 : decode b_Let_takes 11 = .ok (.aload_n 0, 1) := by decide +kernel
theorem d_Let_takes_12 : decode b_Let_takes 12 = .ok (.getfield 9, 3) := by decide +kernel
theorem d_Let_takes_15 : decode b_Let_takes 15 = .ok (.aload_n 0, 1) := by decide +kernel
theorem d_Let_takes_16 : decode b_Let_takes 16 = .ok (.getfield 30, 3) := by decide +kernel
theorem d_Let_takes_19 : decode b_Let_takes 19 = .ok (.iaload, 1) := by decide +kernel
theorem d_Let_takes_20 : decode b_Let_takes 20 = .ok (.iload_n 1, 1) := by decide +kernel
theorem d_Let_takes_21 : decode b_Let_takes 21 = .ok (.if_icmp .ne 7, 3) := by decide +kernel
theorem d_Let_takes_24 : decode b_Let_takes 24 = .ok (.iconst 1, 1) := by decide +kernel
theorem d_Let_takes_25 : decode b_Let_takes 25 = .ok (.goto 4, 3) := by decide +kernel
theorem d_Let_takes_28 : decode b_Let_takes 28 = .ok (.iconst 0, 1) := by decide +kernel
theorem d_Let_takes_29 : decode b_Let_takes 29 = .ok (.istore_n 2, 1) := by decide +kernel
theorem d_Let_takes_30 : decode b_Let_takes 30 = .ok (.iload_n 2, 1) := by decide +kernel
theorem d_Let_takes_31 : decode b_Let_takes 31 = .ok (.ifCond .eq 13, 3) := by decide +kernel
theorem d_Let_takes_34 : decode b_Let_takes 34 = .ok (.aload_n 0, 1) := by decide +kernel
theorem d_Let_takes_35 : decode b_Let_takes 35 = .ok (.dup, 1) := by decide +kernel
theorem d_Let_takes_36 : decode b_Let_takes 36 = .ok (.getfield 30, 3) := by decide +kernel
theorem d_Let_takes_39 : decode b_Let_takes 39 = .ok (.iconst 1, 1) := by decide +kernel
theorem d_Let_takes_40 : decode b_Let_takes 40 = .ok (.iadd, 1) := by decide +kernel
theorem d_Let_takes_41 : decode b_Let_takes 41 = .ok (.putfield 30, 3) := by decide +kernel
theorem d_Let_takes_44 : decode b_Let_takes 44 = .ok (.iload_n 2, 1) := by decide +kernel
theorem d_Let_takes_45 : decode b_Let_takes 45 = .ok (.ireturn, 1) := by decide +kernel
theorem d_Let_isDigit_0 : decode b_Let_isDigit 0 = .ok (.aload_n 0, 1) := by decide +kernel
theorem d_Let_isDigit_1 : decode b_Let_isDigit 1 = .ok (.getfield 30, 3) := by decide +kernel
theorem d_Let_isDigit_4 : decode b_Let_isDigit 4 = .ok (.aload_n 0, 1) := by decide +kernel
theorem d_Let_isDigit_5 : decode b_Let_isDigit 5 = .ok (.getfield 18, 3) := by decide +kernel
theorem d_Let_isDigit_8 : decode b_Let_isDigit 8 = .ok (.if_icmp .ge 35, 3) := by decide +kernel
theorem d_Let_isDigit_11 : decode b_Let_isDigit 11 = .ok (.aload_n 0, 1) := by decide +kernel
theorem d_Let_isDigit_12 : decode b_Let_isDigit 12 = .ok (.getfield 9, 3) := by decide +kernel
theorem d_Let_isDigit_15 : decode b_Let_isDigit 15 = .ok (.aload_n 0, 1) := by decide +kernel
theorem d_Let_isDigit_16 : decode b_Let_isDigit 16 = .ok (.getfield 30, 3) := by decide +kernel
theorem d_Let_isDigit_19 : decode b_Let_isDigit 19 = .ok (.iaload, 1) := by decide +kernel
theorem d_Let_isDigit_20 : decode b_Let_isDigit 20 = .ok (.bipush 48, 2) := by decide +kernel
theorem d_Let_isDigit_22 : decode b_Let_isDigit 22 = .ok (.if_icmp .lt 21, 3) := by decide +kernel
theorem d_Let_isDigit_25 : decode b_Let_isDigit 25 = .ok (.aload_n 0, 1) := by decide +kernel
theorem d_Let_isDigit_26 : decode b_Let_isDigit 26 = .ok (.getfield 9, 3) := by decide +kernel
theorem d_Let_isDigit_29 : decode b_Let_isDigit 29 = .ok (.aload_n 0, 1) := by decide +kernel
theorem d_Let_isDigit_30 : decode b_Let_isDigit 30 = .ok (.getfield 30, 3) := by decide +kernel
theorem d_Let_isDigit_33 : decode b_Let_isDigit 33 = .ok (.iaload, 1) := by decide +kernel
theorem d_Let_isDigit_34 : decode b_Let_isDigit 34 = .ok (.bipush 57, 2) := by decide +kernel
theorem d_Let_isDigit_36 : decode b_Let_isDigit 36 = .ok (.if_icmp .gt 7, 3) := by decide +kernel
theorem d_Let_isDigit_39 : decode b_Let_isDigit 39 = .ok (.iconst 1, 1) := by decide +kernel
theorem d_Let_isDigit_40 : decode b_Let_isDigit 40 = .ok (.goto 4, 3) := by decide +kernel
theorem d_Let_isDigit_43 : decode b_Let_isDigit 43 = .ok (.iconst 0, 1) := by decide +kernel
theorem d_Let_isDigit_44 : decode b_Let_isDigit 44 = .ok (.ireturn, 1) := by decide +kernel
theorem d_Pla_init_0 : decode b_Pla_init 0 = .ok (.aload_n 0, 1) := by decide +kernel
theorem d_Pla_init_1 : decode b_Pla_init 1 = .ok (.invokespecial 3, 3) := by decide +kernel
theorem d_Pla_init_4 : decode b_Pla_init 4 = .ok (.aload_n 0, 1) := by decide +kernel
theorem d_Pla_init_5 : decode b_Pla_init 5 = .ok (.bipush 15, 2) := by decide +kernel
theorem d_Pla_init_7 : decode b_Pla_init 7 = .ok (.newarray .int, 2) := by decide +kernel
theorem d_Pla_init_9 : decode b_Pla_init 9 = .ok (.putfield 9, 3) := by decide +kernel
theorem d_Pla_init_12 : decode b_Pla_init 12 = .ok (.aload_n 0, 1) := by decide +kernel
theorem d_Pla_init_13 : decode b_Pla_init 13 = .ok (.bipush 15, 2) := by decide +kernel
theorem d_Pla_init_15 : decode b_Pla_init 15 = .ok (.newarray .int, 2) := by decide +kernel
theorem d_Pla_init_17 : decode b_Pla_init 17 = .ok (.putfield 15, 3) := by decide +kernel
theorem d_Pla_init_20 : decode b_Pla_init 20 = .ok (.aload_n 0, 1) := by decide +kernel
theorem d_Pla_init_21 : decode b_Pla_init 21 = .ok (.bipush 15, 2) := by decide +kernel
theorem d_Pla_init_23 : decode b_Pla_init 23 = .ok (.newarray .int, 2) := by decide +kernel
theorem d_Pla_init_25 : decode b_Pla_init 25 = .ok (.putfield 18, 3) := by decide +kernel
theorem d_Pla_init_28 : decode b_Pla_init 28 = .ok (.aload_n 0, 1) := by decide +kernel
theorem d_Pla_init_29 : decode b_Pla_init 29 = .ok (.bipush 15, 2) := by decide +kernel
theorem d_Pla_init_31 : decode b_Pla_init 31 = .ok (.newarray .int, 2) := by decide +kernel
theorem d_Pla_init_33 : decode b_Pla_init 33 = .ok (.putfield 21, 3) := by decide +kernel
theorem d_Pla_init_36 : decode b_Pla_init 36 = .ok (.aload_n 0, 1) := by decide +kernel
theorem d_Pla_init_37 : decode b_Pla_init 37 = .ok (.bipush 15, 2) := by decide +kernel
theorem d_Pla_init_39 : decode b_Pla_init 39 = .ok (.newarray .int, 2) := by decide +kernel
theorem d_Pla_init_41 : decode b_Pla_init 41 = .ok (.putfield 24, 3) := by decide +kernel
theorem d_Pla_init_44 : decode b_Pla_init 44 = .ok (.aload_n 0, 1) := by decide +kernel
theorem d_Pla_init_45 : decode b_Pla_init 45 = .ok (.aload_n 1, 1) := by decide +kernel
theorem d_Pla_init_46 : decode b_Pla_init 46 = .ok (.putfield 27, 3) := by decide +kernel
theorem d_Pla_init_49 : decode b_Pla_init 49 = .ok (.return_, 1) := by decide +kernel
theorem d_Pla_measure_0 : decode b_Pla_measure 0 = .ok (.aload_n 0, 1) := by decide +kernel
theorem d_Pla_measure_1 : decode b_Pla_measure 1 = .ok (.invokevirtual 31, 3) := by decide +kernel
theorem d_Pla_measure_4 : decode b_Pla_measure 4 = .ok (.aload_n 0, 1) := by decide +kernel
theorem d_Pla_measure_5 : decode b_Pla_measure 5 = .ok (.invokevirtual 34, 3) := by decide +kernel
theorem d_Pla_measure_8 : decode b_Pla_measure 8 = .ok (.return_, 1) := by decide +kernel
theorem d_Pla_hasQuarter_0 : decode b_Pla_hasQuarter 0 = .ok (.aload_n 0, 1) := by decide +kernel
theorem d_Pla_hasQuarter_1 : decode b_Pla_hasQuarter 1 = .ok (.getfield 37, 3) := by decide +kernel
theorem d_Pla_hasQuarter_4 : decode b_Pla_hasQuarter 4 = .ok (.iload_n 1, 1) := by decide +kernel
theorem d_Pla_hasQuarter_5 : decode b_Pla_hasQuarter 5 = .ok (.invokestatic 41, 3) := by decide +kernel
theorem d_Pla_hasQuarter_8 : decode b_Pla_hasQuarter 8 = .ok (.ireturn, 1) := by decide +kernel
theorem d_Pla_cornersOf_0 : decode b_Pla_cornersOf 0 = .ok (.iconst 0, 1) := by decide +kernel
theorem d_Pla_cornersOf_1 : decode b_Pla_cornersOf 1 = .ok (.istore_n 2, 1) := by decide +kernel
theorem d_Pla_cornersOf_2 : decode b_Pla_cornersOf 2 = .ok (.iconst 0, 1) := by decide +kernel
theorem d_Pla_cornersOf_3 : decode b_Pla_cornersOf 3 = .ok (.istore_n 3, 1) := by decide +kernel
theorem d_Pla_cornersOf_4 : decode b_Pla_cornersOf 4 = .ok (.iload_n 3, 1) := by decide +kernel
theorem d_Pla_cornersOf_5 : decode b_Pla_cornersOf 5 = .ok (.aload_n 0, 1) := by decide +kernel
theorem d_Pla_cornersOf_6 : decode b_Pla_cornersOf 6 = .ok (.getfield 45, 3) := by decide +kernel
theorem d_Pla_cornersOf_9 : decode b_Pla_cornersOf 9 = .ok (.if_icmp .ge 31, 3) := by decide +kernel
theorem d_Pla_cornersOf_12 : decode b_Pla_cornersOf 12 = .ok (.iload_n 1, 1) := by decide +kernel
theorem d_Pla_cornersOf_13 : decode b_Pla_cornersOf 13 = .ok (.aload_n 0, 1) := by decide +kernel
theorem d_Pla_cornersOf_14 : decode b_Pla_cornersOf 14 = .ok (.getfield 21, 3) := by decide +kernel
theorem d_Pla_cornersOf_17 : decode b_Pla_cornersOf 17 = .ok (.iload_n 3, 1) := by decide +kernel
theorem d_Pla_cornersOf_18 : decode b_Pla_cornersOf 18 = .ok (.iaload, 1) := by decide +kernel
theorem d_Pla_cornersOf_19 : decode b_Pla_cornersOf 19 = .ok (.iconst (-1), 1) := by decide +kernel
theorem d_Pla_cornersOf_20 : decode b_Pla_cornersOf 20 = .ok (.ixor, 1) := by decide +kernel
theorem d_Pla_cornersOf_21 : decode b_Pla_cornersOf 21 = .ok (.iand, 1) := by decide +kernel
theorem d_Pla_cornersOf_22 : decode b_Pla_cornersOf 22 = .ok (.aload_n 0, 1) := by decide +kernel
theorem d_Pla_cornersOf_23 : decode b_Pla_cornersOf 23 = .ok (.getfield 24, 3) := by decide +kernel
theorem d_Pla_cornersOf_26 : decode b_Pla_cornersOf 26 = .ok (.iload_n 3, 1) := by decide +kernel
theorem d_Pla_cornersOf_27 : decode b_Pla_cornersOf 27 = .ok (.iaload, 1) := by decide +kernel
theorem d_Pla_cornersOf_28 : decode b_Pla_cornersOf 28 = .ok (.if_icmp .ne 6, 3) := by decide +kernel
theorem d_Pla_cornersOf_31 : decode b_Pla_cornersOf 31 = .ok (.iinc 2 1, 3) := by decide +kernel
theorem d_Pla_cornersOf_34 : decode b_Pla_cornersOf 34 = .ok (.iinc 3 1, 3) := by decide +kernel
theorem d_Pla_cornersOf_37 : decode b_Pla_cornersOf 37 = .ok (.goto (-33), 3) := by decide +kernel
theorem d_Pla_cornersOf_40 : decode b_Pla_cornersOf 40 = .ok (.iload_n 2, 1) := by decide +kernel
theorem d_Pla_cornersOf_41 : decode b_Pla_cornersOf 41 = .ok (.ireturn, 1) := by decide +kernel
theorem d_Pla_sidesOf_0 : decode b_Pla_sidesOf 0 = .ok (.iconst 0, 1) := by decide +kernel
theorem d_Pla_sidesOf_1 : decode b_Pla_sidesOf 1 = .ok (.istore_n 2, 1) := by decide +kernel
theorem d_Pla_sidesOf_2 : decode b_Pla_sidesOf 2 = .ok (.iconst 0, 1) := by decide +kernel
theorem d_Pla_sidesOf_3 : decode b_Pla_sidesOf 3 = .ok (.istore_n 3, 1) := by decide +kernel
theorem d_Pla_sidesOf_4 : decode b_Pla_sidesOf 4 = .ok (.iload_n 3, 1) := by decide +kernel
theorem d_Pla_sidesOf_5 : decode b_Pla_sidesOf 5 = .ok (.aload_n 0, 1) := by decide +kernel
theorem d_Pla_sidesOf_6 : decode b_Pla_sidesOf 6 = .ok (.getfield 27, 3) := by decide +kernel
theorem d_Pla_sidesOf_9 : decode b_Pla_sidesOf 9 = .ok (.getfield 49, 3) := by decide +kernel
theorem d_Pla_sidesOf_12 : decode b_Pla_sidesOf 12 = .ok (.if_icmp .ge 24, 3) := by decide +kernel
theorem d_Pla_sidesOf_15 : decode b_Pla_sidesOf 15 = .ok (.aload_n 0, 1) := by decide +kernel
theorem d_Pla_sidesOf_16 : decode b_Pla_sidesOf 16 = .ok (.iload_n 1, 1) := by decide +kernel
theorem d_Pla_sidesOf_17 : decode b_Pla_sidesOf 17 = .ok (.iconst 1, 1) := by decide +kernel
theorem d_Pla_sidesOf_18 : decode b_Pla_sidesOf 18 = .ok (.iload_n 3, 1) := by decide +kernel
theorem d_Pla_sidesOf_19 : decode b_Pla_sidesOf 19 = .ok (.ishl, 1) := by decide +kernel
theorem d_Pla_sidesOf_20 : decode b_Pla_sidesOf 20 = .ok (.ixor, 1) := by decide +kernel
theorem d_Pla_sidesOf_21 : decode b_Pla_sidesOf 21 = .ok (.invokevirtual 54, 3) := by decide +kernel
theorem d_Pla_sidesOf_24 : decode b_Pla_sidesOf 24 = .ok (.ifCond .eq 6, 3) := by decide +kernel
theorem d_Pla_sidesOf_27 : decode b_Pla_sidesOf 27 = .ok (.iinc 2 1, 3) := by decide +kernel
theorem d_Pla_sidesOf_30 : decode b_Pla_sidesOf 30 = .ok (.iinc 3 1, 3) := by decide +kernel
theorem d_Pla_sidesOf_33 : decode b_Pla_sidesOf 33 = .ok (.goto (-29), 3) := by decide +kernel
theorem d_Pla_sidesOf_36 : decode b_Pla_sidesOf 36 = .ok (.iload_n 2, 1) := by decide +kernel
theorem d_Pla_sidesOf_37 : decode b_Pla_sidesOf 37 = .ok (.ireturn, 1) := by decide +kernel
theorem d_Pla_squares_0 : decode b_Pla_squares 0 = .ok (.iconst 0, 1) := by decide +kernel
theorem d_Pla_squares_1 : decode b_Pla_squares 1 = .ok (.istore_n 1, 1) := by decide +kernel
theorem d_Pla_squares_2 : decode b_Pla_squares 2 = .ok (.iconst 0, 1) := by decide +kernel
theorem d_Pla_squares_3 : decode b_Pla_squares 3 = .ok (.istore_n 2, 1) := by decide +kernel
theorem d_Pla_squares_4 : decode b_Pla_squares 4 = .ok (.iload_n 2, 1) := by decide +kernel
theorem d_Pla_squares_5 : decode b_Pla_squares 5 = .ok (.aload_n 0, 1) := by decide +kernel
theorem d_Pla_squares_6 : decode b_Pla_squares 6 = .ok (.getfield 45, 3) := by decide +kernel
theorem d_Pla_squares_9 : decode b_Pla_squares 9 = .ok (.if_icmp .ge 20, 3) := by decide +kernel
theorem d_Pla_squares_12 : decode b_Pla_squares 12 = .ok (.aload_n 0, 1) := by decide +kernel
theorem d_Pla_squares_13 : decode b_Pla_squares 13 = .ok (.iload_n 2, 1) := by decide +kernel
theorem d_Pla_squares_14 : decode b_Pla_squares 14 = .ok (.invokevirtual 58, 3) := by decide +kernel
theorem d_Pla_squares_17 : decode b_Pla_squares 17 = .ok (.ifCond .eq 6, 3) := by decide +kernel
theorem d_Pla_squares_20 : decode b_Pla_squares 20 = .ok (.iinc 1 1, 3) := by decide +kernel
theorem d_Pla_squares_23 : decode b_Pla_squares 23 = .ok (.iinc 2 1, 3) := by decide +kernel
theorem d_Pla_squares_26 : decode b_Pla_squares 26 = .ok (.goto (-22), 3) := by decide +kernel
theorem d_Pla_squares_29 : decode b_Pla_squares 29 = .ok (.iload_n 1, 1) := by decide +kernel
theorem d_Pla_squares_30 : decode b_Pla_squares 30 = .ok (.ireturn, 1) := by decide +kernel
theorem d_Pla_mostMeeting_0 : decode b_Pla_mostMeeting 0 = .ok (.iconst 0, 1) := by decide +kernel
theorem d_Pla_mostMeeting_1 : decode b_Pla_mostMeeting 1 = .ok (.istore_n 1, 1) := by decide +kernel
theorem d_Pla_mostMeeting_2 : decode b_Pla_mostMeeting 2 = .ok (.iconst 0, 1) := by decide +kernel
theorem d_Pla_mostMeeting_3 : decode b_Pla_mostMeeting 3 = .ok (.istore_n 2, 1) := by decide +kernel
theorem d_Pla_mostMeeting_4 : decode b_Pla_mostMeeting 4 = .ok (.iload_n 2, 1) := by decide +kernel
theorem d_Pla_mostMeeting_5 : decode b_Pla_mostMeeting 5 = .ok (.aload_n 0, 1) := by decide +kernel
theorem d_Pla_mostMeeting_6 : decode b_Pla_mostMeeting 6 = .ok (.getfield 45, 3) := by decide +kernel
theorem d_Pla_mostMeeting_9 : decode b_Pla_mostMeeting 9 = .ok (.if_icmp .ge 23, 3) := by decide +kernel
theorem d_Pla_mostMeeting_12 : decode b_Pla_mostMeeting 12 = .ok (.iload_n 1, 1) := by decide +kernel
theorem d_Pla_mostMeeting_13 : decode b_Pla_mostMeeting 13 = .ok (.aload_n 0, 1) := by decide +kernel
theorem d_Pla_mostMeeting_14 : decode b_Pla_mostMeeting 14 = .ok (.getfield 21, 3) := by decide +kernel
theorem d_Pla_mostMeeting_17 : decode b_Pla_mostMeeting 17 = .ok (.iload_n 2, 1) := by decide +kernel
theorem d_Pla_mostMeeting_18 : decode b_Pla_mostMeeting 18 = .ok (.iaload, 1) := by decide +kernel
theorem d_Pla_mostMeeting_19 : decode b_Pla_mostMeeting 19 = .ok (.invokestatic 61, 3) := by decide +kernel
theorem d_Pla_mostMeeting_22 : decode b_Pla_mostMeeting 22 = .ok (.invokestatic 67, 3) := by decide +kernel
theorem d_Pla_mostMeeting_25 : decode b_Pla_mostMeeting 25 = .ok (.istore_n 1, 1) := by decide +kernel
theorem d_Pla_mostMeeting_26 : decode b_Pla_mostMeeting 26 = .ok (.iinc 2 1, 3) := by decide +kernel
theorem d_Pla_mostMeeting_29 : decode b_Pla_mostMeeting 29 = .ok (.goto (-25), 3) := by decide +kernel
theorem d_Pla_mostMeeting_32 : decode b_Pla_mostMeeting 32 = .ok (.iload_n 1, 1) := by decide +kernel
theorem d_Pla_mostMeeting_33 : decode b_Pla_mostMeeting 33 = .ok (.ireturn, 1) := by decide +kernel
theorem d_Pla_pointsOn_0 : decode b_Pla_pointsOn 0 = .ok (.iconst 0, 1) := by decide +kernel
theorem d_Pla_pointsOn_1 : decode b_Pla_pointsOn 1 = .ok (.istore 4, 2) := by decide +kernel
theorem d_Pla_pointsOn_3 : decode b_Pla_pointsOn 3 = .ok (.iconst 0, 1) := by decide +kernel
theorem d_Pla_pointsOn_4 : decode b_Pla_pointsOn 4 = .ok (.istore 5, 2) := by decide +kernel
theorem d_Pla_pointsOn_6 : decode b_Pla_pointsOn 6 = .ok (.iload 5, 2) := by decide +kernel
theorem d_Pla_pointsOn_8 : decode b_Pla_pointsOn 8 = .ok (.aload_n 0, 1) := by decide +kernel
theorem d_Pla_pointsOn_9 : decode b_Pla_pointsOn 9 = .ok (.getfield 45, 3) := by decide +kernel
theorem d_Pla_pointsOn_12 : decode b_Pla_pointsOn 12 = .ok (.if_icmp .ge 43, 3) := by decide +kernel
theorem d_Pla_pointsOn_15 : decode b_Pla_pointsOn 15 = .ok (.iload_n 1, 1) := by decide +kernel
theorem d_Pla_pointsOn_16 : decode b_Pla_pointsOn 16 = .ok (.aload_n 0, 1) := by decide +kernel
theorem d_Pla_pointsOn_17 : decode b_Pla_pointsOn 17 = .ok (.getfield 9, 3) := by decide +kernel
theorem d_Pla_pointsOn_20 : decode b_Pla_pointsOn 20 = .ok (.iload 5, 2) := by decide +kernel
theorem d_Pla_pointsOn_22 : decode b_Pla_pointsOn 22 = .ok (.iaload, 1) := by decide +kernel
theorem d_Pla_pointsOn_23 : decode b_Pla_pointsOn 23 = .ok (.imul, 1) := by decide +kernel
theorem d_Pla_pointsOn_24 : decode b_Pla_pointsOn 24 = .ok (.iload_n 2, 1) := by decide +kernel
theorem d_Pla_pointsOn_25 : decode b_Pla_pointsOn 25 = .ok (.aload_n 0, 1) := by decide +kernel
theorem d_Pla_pointsOn_26 : decode b_Pla_pointsOn 26 = .ok (.getfield 15, 3) := by decide +kernel
theorem d_Pla_pointsOn_29 : decode b_Pla_pointsOn 29 = .ok (.iload 5, 2) := by decide +kernel
theorem d_Pla_pointsOn_31 : decode b_Pla_pointsOn 31 = .ok (.iaload, 1) := by decide +kernel
theorem d_Pla_pointsOn_32 : decode b_Pla_pointsOn 32 = .ok (.imul, 1) := by decide +kernel
theorem d_Pla_pointsOn_33 : decode b_Pla_pointsOn 33 = .ok (.iadd, 1) := by decide +kernel
theorem d_Pla_pointsOn_34 : decode b_Pla_pointsOn 34 = .ok (.iload_n 3, 1) := by decide +kernel
theorem d_Pla_pointsOn_35 : decode b_Pla_pointsOn 35 = .ok (.aload_n 0, 1) := by decide +kernel
theorem d_Pla_pointsOn_36 : decode b_Pla_pointsOn 36 = .ok (.getfield 18, 3) := by decide +kernel
theorem d_Pla_pointsOn_39 : decode b_Pla_pointsOn 39 = .ok (.iload 5, 2) := by decide +kernel
theorem d_Pla_pointsOn_41 : decode b_Pla_pointsOn 41 = .ok (.iaload, 1) := by decide +kernel
theorem d_Pla_pointsOn_42 : decode b_Pla_pointsOn 42 = .ok (.imul, 1) := by decide +kernel
theorem d_Pla_pointsOn_43 : decode b_Pla_pointsOn 43 = .ok (.if_icmp .ne 6, 3) := by decide +kernel
theorem d_Pla_pointsOn_46 : decode b_Pla_pointsOn 46 = .ok (.iinc 4 1, 3) := by decide +kernel
theorem d_Pla_pointsOn_49 : decode b_Pla_pointsOn 49 = .ok (.iinc 5 1, 3) := by decide +kernel
theorem d_Pla_pointsOn_52 : decode b_Pla_pointsOn 52 = .ok (.goto (-46), 3) := by decide +kernel
theorem d_Pla_pointsOn_55 : decode b_Pla_pointsOn 55 = .ok (.iload 4, 2) := by decide +kernel
theorem d_Pla_pointsOn_57 : decode b_Pla_pointsOn 57 = .ok (.ireturn, 1) := by decide +kernel
theorem d_Pla_lampsFrom_0 : decode b_Pla_lampsFrom 0 = .ok (.iconst 0, 1) := by decide +kernel
theorem d_Pla_lampsFrom_1 : decode b_Pla_lampsFrom 1 = .ok (.istore_n 2, 1) := by decide +kernel
theorem d_Pla_lampsFrom_2 : decode b_Pla_lampsFrom 2 = .ok (.iconst 0, 1) := by decide +kernel
theorem d_Pla_lampsFrom_3 : decode b_Pla_lampsFrom 3 = .ok (.istore_n 3, 1) := by decide +kernel
theorem d_Pla_lampsFrom_4 : decode b_Pla_lampsFrom 4 = .ok (.iload_n 3, 1) := by decide +kernel
theorem d_Pla_lampsFrom_5 : decode b_Pla_lampsFrom 5 = .ok (.aload_n 0, 1) := by decide +kernel
theorem d_Pla_lampsFrom_6 : decode b_Pla_lampsFrom 6 = .ok (.getfield 45, 3) := by decide +kernel
theorem d_Pla_lampsFrom_9 : decode b_Pla_lampsFrom 9 = .ok (.if_icmp .ge 35, 3) := by decide +kernel
theorem d_Pla_lampsFrom_12 : decode b_Pla_lampsFrom 12 = .ok (.aload_n 0, 1) := by decide +kernel
theorem d_Pla_lampsFrom_13 : decode b_Pla_lampsFrom 13 = .ok (.getfield 21, 3) := by decide +kernel
theorem d_Pla_lampsFrom_16 : decode b_Pla_lampsFrom 16 = .ok (.iload_n 3, 1) := by decide +kernel
theorem d_Pla_lampsFrom_17 : decode b_Pla_lampsFrom 17 = .ok (.iaload, 1) := by decide +kernel
theorem d_Pla_lampsFrom_18 : decode b_Pla_lampsFrom 18 = .ok (.iload_n 1, 1) := by decide +kernel
theorem d_Pla_lampsFrom_19 : decode b_Pla_lampsFrom 19 = .ok (.ishr, 1) := by decide +kernel
theorem d_Pla_lampsFrom_20 : decode b_Pla_lampsFrom 20 = .ok (.iconst 1, 1) := by decide +kernel
theorem d_Pla_lampsFrom_21 : decode b_Pla_lampsFrom 21 = .ok (.iand, 1) := by decide +kernel
theorem d_Pla_lampsFrom_22 : decode b_Pla_lampsFrom 22 = .ok (.ifCond .eq 16, 3) := by decide +kernel
theorem d_Pla_lampsFrom_25 : decode b_Pla_lampsFrom 25 = .ok (.iload_n 2, 1) := by decide +kernel
theorem d_Pla_lampsFrom_26 : decode b_Pla_lampsFrom 26 = .ok (.aload_n 0, 1) := by decide +kernel
theorem d_Pla_lampsFrom_27 : decode b_Pla_lampsFrom 27 = .ok (.iload_n 1, 1) := by decide +kernel
theorem d_Pla_lampsFrom_28 : decode b_Pla_lampsFrom 28 = .ok (.aload_n 0, 1) := by decide +kernel
theorem d_Pla_lampsFrom_29 : decode b_Pla_lampsFrom 29 = .ok (.iload_n 3, 1) := by decide +kernel
theorem d_Pla_lampsFrom_30 : decode b_Pla_lampsFrom 30 = .ok (.invokevirtual 58, 3) := by decide +kernel
theorem d_Pla_lampsFrom_33 : decode b_Pla_lampsFrom 33 = .ok (.invokevirtual 73, 3) := by decide +kernel
theorem d_Pla_lampsFrom_36 : decode b_Pla_lampsFrom 36 = .ok (.iadd, 1) := by decide +kernel
theorem d_Pla_lampsFrom_37 : decode b_Pla_lampsFrom 37 = .ok (.istore_n 2, 1) := by decide +kernel
theorem d_Pla_lampsFrom_38 : decode b_Pla_lampsFrom 38 = .ok (.iinc 3 1, 3) := by decide +kernel
theorem d_Pla_lampsFrom_41 : decode b_Pla_lampsFrom 41 = .ok (.goto (-37), 3) := by decide +kernel
theorem d_Pla_lampsFrom_44 : decode b_Pla_lampsFrom 44 = .ok (.iload_n 2, 1) := by decide +kernel
theorem d_Pla_lampsFrom_45 : decode b_Pla_lampsFrom 45 = .ok (.ireturn, 1) := by decide +kernel
theorem d_Pla_quarterOfPlot_0 : decode b_Pla_quarterOfPlot 0 = .ok (.aload_n 0, 1) := by decide +kernel
theorem d_Pla_quarterOfPlot_1 : decode b_Pla_quarterOfPlot 1 = .ok (.getfield 27, 3) := by decide +kernel
theorem d_Pla_quarterOfPlot_4 : decode b_Pla_quarterOfPlot 4 = .ok (.iload_n 1, 1) := by decide +kernel
theorem d_Pla_quarterOfPlot_5 : decode b_Pla_quarterOfPlot 5 = .ok (.invokevirtual 77, 3) := by decide +kernel
theorem d_Pla_quarterOfPlot_8 : decode b_Pla_quarterOfPlot 8 = .ok (.ifCond .eq 28, 3) := by decide +kernel
theorem d_Pla_quarterOfPlot_11 : decode b_Pla_quarterOfPlot 11 = .ok (.aload_n 0, 1) := by decide +kernel
theorem d_Pla_quarterOfPlot_12 : decode b_Pla_quarterOfPlot 12 = .ok (.aload_n 0, 1) := by decide +kernel
theorem d_Pla_quarterOfPlot_13 : decode b_Pla_quarterOfPlot 13 = .ok (.getfield 27, 3) := by decide +kernel
theorem d_Pla_quarterOfPlot_16 : decode b_Pla_quarterOfPlot 16 = .ok (.getfield 80, 3) := by decide +kernel
theorem d_Pla_quarterOfPlot_19 : decode b_Pla_quarterOfPlot 19 = .ok (.iload_n 1, 1) := by decide +kernel
theorem d_Pla_quarterOfPlot_20 : decode b_Pla_quarterOfPlot 20 = .ok (.iaload, 1) := by decide +kernel
theorem d_Pla_quarterOfPlot_21 : decode b_Pla_quarterOfPlot 21 = .ok (.aload_n 0, 1) := by decide +kernel
theorem d_Pla_quarterOfPlot_22 : decode b_Pla_quarterOfPlot 22 = .ok (.getfield 27, 3) := by decide +kernel
theorem d_Pla_quarterOfPlot_25 : decode b_Pla_quarterOfPlot 25 = .ok (.getfield 83, 3) := by decide +kernel
theorem d_Pla_quarterOfPlot_28 : decode b_Pla_quarterOfPlot 28 = .ok (.iload_n 1, 1) := by decide +kernel
theorem d_Pla_quarterOfPlot_29 : decode b_Pla_quarterOfPlot 29 = .ok (.iaload, 1) := by decide +kernel
theorem d_Pla_quarterOfPlot_30 : decode b_Pla_quarterOfPlot 30 = .ok (.invokevirtual 86, 3) := by decide +kernel
theorem d_Pla_quarterOfPlot_33 : decode b_Pla_quarterOfPlot 33 = .ok (.goto 5, 3) := by decide +kernel
theorem d_Pla_quarterOfPlot_36 : decode b_Pla_quarterOfPlot 36 = .ok (.bipush (-9), 2) := by decide +kernel
theorem d_Pla_quarterOfPlot_38 : decode b_Pla_quarterOfPlot 38 = .ok (.ireturn, 1) := by decide +kernel
theorem d_Pla_quarterAt_0 : decode b_Pla_quarterAt 0 = .ok (.aload_n 0, 1) := by decide +kernel
theorem d_Pla_quarterAt_1 : decode b_Pla_quarterAt 1 = .ok (.iload_n 1, 1) := by decide +kernel
theorem d_Pla_quarterAt_2 : decode b_Pla_quarterAt 2 = .ok (.iload_n 2, 1) := by decide +kernel
theorem d_Pla_quarterAt_3 : decode b_Pla_quarterAt 3 = .ok (.iconst 1, 1) := by decide +kernel
theorem d_Pla_quarterAt_4 : decode b_Pla_quarterAt 4 = .ok (.invokevirtual 89, 3) := by decide +kernel
theorem d_Pla_quarterAt_7 : decode b_Pla_quarterAt 7 = .ok (.ifCond .ne 13, 3) := by decide +kernel
theorem d_Pla_quarterAt_10 : decode b_Pla_quarterAt 10 = .ok (.aload_n 0, 1) := by decide +kernel
theorem d_Pla_quarterAt_11 : decode b_Pla_quarterAt 11 = .ok (.iload_n 1, 1) := by decide +kernel
theorem d_Pla_quarterAt_12 : decode b_Pla_quarterAt 12 = .ok (.iload_n 2, 1) := by decide +kernel
theorem d_Pla_quarterAt_13 : decode b_Pla_quarterAt 13 = .ok (.iconst 1, 1) := by decide +kernel
theorem d_Pla_quarterAt_14 : decode b_Pla_quarterAt 14 = .ok (.invokevirtual 93, 3) := by decide +kernel
theorem d_Pla_quarterAt_17 : decode b_Pla_quarterAt 17 = .ok (.goto 5, 3) := by decide +kernel
theorem d_Pla_quarterAt_20 : decode b_Pla_quarterAt 20 = .ok (.bipush (-9), 2) := by decide +kernel
theorem d_Pla_quarterAt_22 : decode b_Pla_quarterAt 22 = .ok (.ireturn, 1) := by decide +kernel
theorem d_Pla_quartersWithPlots_0 : decode b_Pla_quartersWithPlots 0 = .ok (.lconst 0, 1) := by decide +kernel
theorem d_Pla_quartersWithPlots_1 : decode b_Pla_quartersWithPlots 1 = .ok (.lstore_n 1, 1) := by decide +kernel
theorem d_Pla_quartersWithPlots_2 : decode b_Pla_quartersWithPlots 2 = .ok (.iconst 0, 1) := by decide +kernel
theorem d_Pla_quartersWithPlots_3 : decode b_Pla_quartersWithPlots 3 = .ok (.istore_n 3, 1) := by decide +kernel
theorem d_Pla_quartersWithPlots_4 : decode b_Pla_quartersWithPlots 4 = .ok (.iload_n 3, 1) := by decide +kernel
theorem d_Pla_quartersWithPlots_5 : decode b_Pla_quartersWithPlots 5 = .ok (.aload_n 0, 1) := by decide +kernel
theorem d_Pla_quartersWithPlots_6 : decode b_Pla_quartersWithPlots 6 = .ok (.getfield 27, 3) := by decide +kernel
theorem d_Pla_quartersWithPlots_9 : decode b_Pla_quartersWithPlots 9 = .ok (.getfield 96, 3) := by decide +kernel
theorem d_Pla_quartersWithPlots_12 : decode b_Pla_quartersWithPlots 12 = .ok (.if_icmp .ge 30, 3) := by decide +kernel
theorem d_Pla_quartersWithPlots_15 : decode b_Pla_quartersWithPlots 15 = .ok (.aload_n 0, 1) := by decide +kernel
theorem d_Pla_quartersWithPlots_16 : decode b_Pla_quartersWithPlots 16 = .ok (.iload_n 3, 1) := by decide +kernel
theorem d_Pla_quartersWithPlots_17 : decode b_Pla_quartersWithPlots 17 = .ok (.invokevirtual 99, 3) := by decide +kernel
theorem d_Pla_quartersWithPlots_20 : decode b_Pla_quartersWithPlots 20 = .ok (.istore 4, 2) := by decide +kernel
theorem d_Pla_quartersWithPlots_22 : decode b_Pla_quartersWithPlots 22 = .ok (.iload 4, 2) := by decide +kernel
theorem d_Pla_quartersWithPlots_24 : decode b_Pla_quartersWithPlots 24 = .ok (.bipush (-9), 2) := by decide +kernel
theorem d_Pla_quartersWithPlots_26 : decode b_Pla_quartersWithPlots 26 = .ok (.if_icmp .eq 10, 3) := by decide +kernel
theorem d_Pla_quartersWithPlots_29 : decode b_Pla_quartersWithPlots 29 = .ok (.lload_n 1, 1) := by decide +kernel
theorem d_Pla_quartersWithPlots_30 : decode b_Pla_quartersWithPlots 30 = .ok (.lconst 1, 1) := by decide +kernel
theorem d_Pla_quartersWithPlots_31 : decode b_Pla_quartersWithPlots 31 = .ok (.iload 4, 2) := by decide +kernel
theorem d_Pla_quartersWithPlots_33 : decode b_Pla_quartersWithPlots 33 = .ok (.lshl, 1) := by decide +kernel
theorem d_Pla_quartersWithPlots_34 : decode b_Pla_quartersWithPlots 34 = .ok (.lor, 1) := by decide +kernel
theorem d_Pla_quartersWithPlots_35 : decode b_Pla_quartersWithPlots 35 = .ok (.lstore_n 1, 1) := by decide +kernel
theorem d_Pla_quartersWithPlots_36 : decode b_Pla_quartersWithPlots 36 = .ok (.iinc 3 1, 3) := by decide +kernel
theorem d_Pla_quartersWithPlots_39 : decode b_Pla_quartersWithPlots 39 = .ok (.goto (-35), 3) := by decide +kernel
theorem d_Pla_quartersWithPlots_42 : decode b_Pla_quartersWithPlots 42 = .ok (.lload_n 1, 1) := by decide +kernel
theorem d_Pla_quartersWithPlots_43 : decode b_Pla_quartersWithPlots 43 = .ok (.lreturn, 1) := by decide +kernel
theorem d_Pla_quartersWithout_0 : decode b_Pla_quartersWithout 0 = .ok (.lconst 0, 1) := by decide +kernel
theorem d_Pla_quartersWithout_1 : decode b_Pla_quartersWithout 1 = .ok (.lstore_n 2, 1) := by decide +kernel
theorem d_Pla_quartersWithout_2 : decode b_Pla_quartersWithout 2 = .ok (.iconst 0, 1) := by decide +kernel
theorem d_Pla_quartersWithout_3 : decode b_Pla_quartersWithout 3 = .ok (.istore 4, 2) := by decide +kernel
theorem d_Pla_quartersWithout_5 : decode b_Pla_quartersWithout 5 = .ok (.iload 4, 2) := by decide +kernel
theorem d_Pla_quartersWithout_7 : decode b_Pla_quartersWithout 7 = .ok (.bipush 64, 2) := by decide +kernel
theorem d_Pla_quartersWithout_9 : decode b_Pla_quartersWithout 9 = .ok (.if_icmp .ge 31, 3) := by decide +kernel
theorem d_Pla_quartersWithout_12 : decode b_Pla_quartersWithout 12 = .ok (.aload_n 0, 1) := by decide +kernel
theorem d_Pla_quartersWithout_13 : decode b_Pla_quartersWithout 13 = .ok (.iload 4, 2) := by decide +kernel
theorem d_Pla_quartersWithout_15 : decode b_Pla_quartersWithout 15 = .ok (.invokevirtual 54, 3) := by decide +kernel
theorem d_Pla_quartersWithout_18 : decode b_Pla_quartersWithout 18 = .ok (.ifCond .eq 16, 3) := by decide +kernel
theorem d_Pla_quartersWithout_21 : decode b_Pla_quartersWithout 21 = .ok (.lload_n 2, 1) := by decide +kernel
theorem d_Pla_quartersWithout_22 : decode b_Pla_quartersWithout 22 = .ok (.lconst 1, 1) := by decide +kernel
theorem d_Pla_quartersWithout_23 : decode b_Pla_quartersWithout 23 = .ok (.iload 4, 2) := by decide +kernel
theorem d_Pla_quartersWithout_25 : decode b_Pla_quartersWithout 25 = .ok (.iconst 1, 1) := by decide +kernel
theorem d_Pla_quartersWithout_26 : decode b_Pla_quartersWithout 26 = .ok (.iload_n 1, 1) := by decide +kernel
theorem d_Pla_quartersWithout_27 : decode b_Pla_quartersWithout 27 = .ok (.ishl, 1) := by decide +kernel
theorem d_Pla_quartersWithout_28 : decode b_Pla_quartersWithout 28 = .ok (.iconst (-1), 1) := by decide +kernel
theorem d_Pla_quartersWithout_29 : decode b_Pla_quartersWithout 29 = .ok (.ixor, 1) := by decide +kernel
theorem d_Pla_quartersWithout_30 : decode b_Pla_quartersWithout 30 = .ok (.iand, 1) := by decide +kernel
theorem d_Pla_quartersWithout_31 : decode b_Pla_quartersWithout 31 = .ok (.lshl, 1) := by decide +kernel
theorem d_Pla_quartersWithout_32 : decode b_Pla_quartersWithout 32 = .ok (.lor, 1) := by decide +kernel
theorem d_Pla_quartersWithout_33 : decode b_Pla_quartersWithout 33 = .ok (.lstore_n 2, 1) := by decide +kernel
theorem d_Pla_quartersWithout_34 : decode b_Pla_quartersWithout 34 = .ok (.iinc 4 1, 3) := by decide +kernel
theorem d_Pla_quartersWithout_37 : decode b_Pla_quartersWithout 37 = .ok (.goto (-32), 3) := by decide +kernel
theorem d_Pla_quartersWithout_40 : decode b_Pla_quartersWithout 40 = .ok (.lload_n 2, 1) := by decide +kernel
theorem d_Pla_quartersWithout_41 : decode b_Pla_quartersWithout 41 = .ok (.invokestatic 102, 3) := by decide +kernel
theorem d_Pla_quartersWithout_44 : decode b_Pla_quartersWithout 44 = .ok (.ireturn, 1) := by decide +kernel
theorem d_Pla_cutBy_0 : decode b_Pla_cutBy 0 = .ok (.lconst 1, 1) := by decide +kernel
theorem d_Pla_cutBy_1 : decode b_Pla_cutBy 1 = .ok (.aload_n 0, 1) := by decide +kernel
theorem d_Pla_cutBy_2 : decode b_Pla_cutBy 2 = .ok (.iload_n 1, 1) := by decide +kernel
theorem d_Pla_cutBy_3 : decode b_Pla_cutBy 3 = .ok (.iload_n 2, 1) := by decide +kernel
theorem d_Pla_cutBy_4 : decode b_Pla_cutBy 4 = .ok (.iconst 1, 1) := by decide +kernel
theorem d_Pla_cutBy_5 : decode b_Pla_cutBy 5 = .ok (.invokevirtual 107, 3) := by decide +kernel
theorem d_Pla_cutBy_8 : decode b_Pla_cutBy 8 = .ok (.lshl, 1) := by decide +kernel
theorem d_Pla_cutBy_9 : decode b_Pla_cutBy 9 = .ok (.lstore 4, 2) := by decide +kernel
theorem d_Pla_cutBy_11 : decode b_Pla_cutBy 11 = .ok (.iconst 0, 1) := by decide +kernel
theorem d_Pla_cutBy_12 : decode b_Pla_cutBy 12 = .ok (.istore 6, 2) := by decide +kernel
theorem d_Pla_cutBy_14 : decode b_Pla_cutBy 14 = .ok (.iload 6, 2) := by decide +kernel
theorem d_Pla_cutBy_16 : decode b_Pla_cutBy 16 = .ok (.aload_n 0, 1) := by decide +kernel
theorem d_Pla_cutBy_17 : decode b_Pla_cutBy 17 = .ok (.getfield 27, 3) := by decide +kernel
theorem d_Pla_cutBy_20 : decode b_Pla_cutBy 20 = .ok (.getfield 49, 3) := by decide +kernel
theorem d_Pla_cutBy_23 : decode b_Pla_cutBy 23 = .ok (.if_icmp .ge 149, 3) := by decide +kernel
theorem d_Pla_cutBy_26 : decode b_Pla_cutBy 26 = .ok (.aload_n 0, 1) := by decide +kernel
theorem d_Pla_cutBy_27 : decode b_Pla_cutBy 27 = .ok (.getfield 27, 3) := by decide +kernel
theorem d_Pla_cutBy_30 : decode b_Pla_cutBy 30 = .ok (.iload_n 1, 1) := by decide +kernel
theorem d_Pla_cutBy_31 : decode b_Pla_cutBy 31 = .ok (.iload_n 2, 1) := by decide +kernel
theorem d_Pla_cutBy_32 : decode b_Pla_cutBy 32 = .ok (.iload 6, 2) := by decide +kernel
theorem d_Pla_cutBy_34 : decode b_Pla_cutBy 34 = .ok (.invokevirtual 110, 3) := by decide +kernel
theorem d_Pla_cutBy_37 : decode b_Pla_cutBy 37 = .ok (.istore 7, 2) := by decide +kernel
theorem d_Pla_cutBy_39 : decode b_Pla_cutBy 39 = .ok (.iload 7, 2) := by decide +kernel
theorem d_Pla_cutBy_41 : decode b_Pla_cutBy 41 = .ok (.ifCond .eq 125, 3) := by decide +kernel
theorem d_Pla_cutBy_44 : decode b_Pla_cutBy 44 = .ok (.iload 7, 2) := by decide +kernel
theorem d_Pla_cutBy_46 : decode b_Pla_cutBy 46 = .ok (.ifCond .ge 7, 3) := by decide +kernel
theorem d_Pla_cutBy_49 : decode b_Pla_cutBy 49 = .ok (.iconst (-1), 1) := by decide +kernel
theorem d_Pla_cutBy_50 : decode b_Pla_cutBy 50 = .ok (.goto 4, 3) := by decide +kernel
theorem d_Pla_cutBy_53 : decode b_Pla_cutBy 53 = .ok (.iconst 1, 1) := by decide +kernel
theorem d_Pla_cutBy_54 : decode b_Pla_cutBy 54 = .ok (.istore 8, 2) := by decide +kernel
theorem d_Pla_cutBy_56 : decode b_Pla_cutBy 56 = .ok (.iload 8, 2) := by decide +kernel
theorem d_Pla_cutBy_58 : decode b_Pla_cutBy 58 = .ok (.iload_n 3, 1) := by decide +kernel
theorem d_Pla_cutBy_59 : decode b_Pla_cutBy 59 = .ok (.aload_n 0, 1) := by decide +kernel
theorem d_Pla_cutBy_60 : decode b_Pla_cutBy 60 = .ok (.getfield 27, 3) := by decide +kernel
theorem d_Pla_cutBy_63 : decode b_Pla_cutBy 63 = .ok (.getfield 113, 3) := by decide +kernel
theorem d_Pla_cutBy_66 : decode b_Pla_cutBy 66 = .ok (.iload 6, 2) := by decide +kernel
theorem d_Pla_cutBy_68 : decode b_Pla_cutBy 68 = .ok (.iaload, 1) := by decide +kernel
theorem d_Pla_cutBy_69 : decode b_Pla_cutBy 69 = .ok (.imul, 1) := by decide +kernel
theorem d_Pla_cutBy_70 : decode b_Pla_cutBy 70 = .ok (.iload_n 2, 1) := by decide +kernel
theorem d_Pla_cutBy_71 : decode b_Pla_cutBy 71 = .ok (.aload_n 0, 1) := by decide +kernel
theorem d_Pla_cutBy_72 : decode b_Pla_cutBy 72 = .ok (.getfield 27, 3) := by decide +kernel
theorem d_Pla_cutBy_75 : decode b_Pla_cutBy 75 = .ok (.getfield 116, 3) := by decide +kernel
theorem d_Pla_cutBy_78 : decode b_Pla_cutBy 78 = .ok (.iload 6, 2) := by decide +kernel
theorem d_Pla_cutBy_80 : decode b_Pla_cutBy 80 = .ok (.iaload, 1) := by decide +kernel
theorem d_Pla_cutBy_81 : decode b_Pla_cutBy 81 = .ok (.imul, 1) := by decide +kernel
theorem d_Pla_cutBy_82 : decode b_Pla_cutBy 82 = .ok (.isub, 1) := by decide +kernel
theorem d_Pla_cutBy_83 : decode b_Pla_cutBy 83 = .ok (.imul, 1) := by decide +kernel
theorem d_Pla_cutBy_84 : decode b_Pla_cutBy 84 = .ok (.istore 9, 2) := by decide +kernel
theorem d_Pla_cutBy_86 : decode b_Pla_cutBy 86 = .ok (.iload 8, 2) := by decide +kernel
theorem d_Pla_cutBy_88 : decode b_Pla_cutBy 88 = .ok (.iload_n 1, 1) := by decide +kernel
theorem d_Pla_cutBy_89 : decode b_Pla_cutBy 89 = .ok (.aload_n 0, 1) := by decide +kernel
theorem d_Pla_cutBy_90 : decode b_Pla_cutBy 90 = .ok (.getfield 27, 3) := by decide +kernel
theorem d_Pla_cutBy_93 : decode b_Pla_cutBy 93 = .ok (.getfield 116, 3) := by decide +kernel
theorem d_Pla_cutBy_96 : decode b_Pla_cutBy 96 = .ok (.iload 6, 2) := by decide +kernel
theorem d_Pla_cutBy_98 : decode b_Pla_cutBy 98 = .ok (.iaload, 1) := by decide +kernel
theorem d_Pla_cutBy_99 : decode b_Pla_cutBy 99 = .ok (.imul, 1) := by decide +kernel
theorem d_Pla_cutBy_100 : decode b_Pla_cutBy 100 = .ok (.iload_n 3, 1) := by decide +kernel
theorem d_Pla_cutBy_101 : decode b_Pla_cutBy 101 = .ok (.aload_n 0, 1) := by decide +kernel
theorem d_Pla_cutBy_102 : decode b_Pla_cutBy 102 = .ok (.getfield 27, 3) := by decide +kernel
theorem d_Pla_cutBy_105 : decode b_Pla_cutBy 105 = .ok (.getfield 119, 3) := by decide +kernel
theorem d_Pla_cutBy_108 : decode b_Pla_cutBy 108 = .ok (.iload 6, 2) := by decide +kernel
theorem d_Pla_cutBy_110 : decode b_Pla_cutBy 110 = .ok (.iaload, 1) := by decide +kernel
theorem d_Pla_cutBy_111 : decode b_Pla_cutBy 111 = .ok (.imul, 1) := by decide +kernel
theorem d_Pla_cutBy_112 : decode b_Pla_cutBy 112 = .ok (.isub, 1) := by decide +kernel
theorem d_Pla_cutBy_113 : decode b_Pla_cutBy 113 = .ok (.imul, 1) := by decide +kernel
theorem d_Pla_cutBy_114 : decode b_Pla_cutBy 114 = .ok (.istore 10, 2) := by decide +kernel
theorem d_Pla_cutBy_116 : decode b_Pla_cutBy 116 = .ok (.aload_n 0, 1) := by decide +kernel
theorem d_Pla_cutBy_117 : decode b_Pla_cutBy 117 = .ok (.iload 9, 2) := by decide +kernel
theorem d_Pla_cutBy_119 : decode b_Pla_cutBy 119 = .ok (.iload 10, 2) := by decide +kernel
theorem d_Pla_cutBy_121 : decode b_Pla_cutBy 121 = .ok (.iload 8, 2) := by decide +kernel
theorem d_Pla_cutBy_123 : decode b_Pla_cutBy 123 = .ok (.iload 7, 2) := by decide +kernel
theorem d_Pla_cutBy_125 : decode b_Pla_cutBy 125 = .ok (.imul, 1) := by decide +kernel
theorem d_Pla_cutBy_126 : decode b_Pla_cutBy 126 = .ok (.invokevirtual 93, 3) := by decide +kernel
theorem d_Pla_cutBy_129 : decode b_Pla_cutBy 129 = .ok (.istore 11, 2) := by decide +kernel
theorem d_Pla_cutBy_131 : decode b_Pla_cutBy 131 = .ok (.aload_n 0, 1) := by decide +kernel
theorem d_Pla_cutBy_132 : decode b_Pla_cutBy 132 = .ok (.iload 9, 2) := by decide +kernel
theorem d_Pla_cutBy_134 : decode b_Pla_cutBy 134 = .ok (.iload 10, 2) := by decide +kernel
theorem d_Pla_cutBy_136 : decode b_Pla_cutBy 136 = .ok (.iload 8, 2) := by decide +kernel
theorem d_Pla_cutBy_138 : decode b_Pla_cutBy 138 = .ok (.iload 7, 2) := by decide +kernel
theorem d_Pla_cutBy_140 : decode b_Pla_cutBy 140 = .ok (.imul, 1) := by decide +kernel
theorem d_Pla_cutBy_141 : decode b_Pla_cutBy 141 = .ok (.invokevirtual 89, 3) := by decide +kernel
theorem d_Pla_cutBy_144 : decode b_Pla_cutBy 144 = .ok (.istore 12, 2) := by decide +kernel
theorem d_Pla_cutBy_146 : decode b_Pla_cutBy 146 = .ok (.lload 4, 2) := by decide +kernel
theorem d_Pla_cutBy_148 : decode b_Pla_cutBy 148 = .ok (.lconst 1, 1) := by decide +kernel
theorem d_Pla_cutBy_149 : decode b_Pla_cutBy 149 = .ok (.iload 11, 2) := by decide +kernel
theorem d_Pla_cutBy_151 : decode b_Pla_cutBy 151 = .ok (.iload 12, 2) := by decide +kernel
theorem d_Pla_cutBy_153 : decode b_Pla_cutBy 153 = .ok (.aload_n 0, 1) := by decide +kernel
theorem d_Pla_cutBy_154 : decode b_Pla_cutBy 154 = .ok (.iload_n 1, 1) := by decide +kernel
theorem d_Pla_cutBy_155 : decode b_Pla_cutBy 155 = .ok (.iload_n 2, 1) := by decide +kernel
theorem d_Pla_cutBy_156 : decode b_Pla_cutBy 156 = .ok (.iconst (-1), 1) := by decide +kernel
theorem d_Pla_cutBy_157 : decode b_Pla_cutBy 157 = .ok (.invokevirtual 107, 3) := by decide +kernel
theorem d_Pla_cutBy_160 : decode b_Pla_cutBy 160 = .ok (.iand, 1) := by decide +kernel
theorem d_Pla_cutBy_161 : decode b_Pla_cutBy 161 = .ok (.ior, 1) := by decide +kernel
theorem d_Pla_cutBy_162 : decode b_Pla_cutBy 162 = .ok (.lshl, 1) := by decide +kernel
theorem d_Pla_cutBy_163 : decode b_Pla_cutBy 163 = .ok (.lor, 1) := by decide +kernel
theorem d_Pla_cutBy_164 : decode b_Pla_cutBy 164 = .ok (.lstore 4, 2) := by decide +kernel
theorem d_Pla_cutBy_166 : decode b_Pla_cutBy 166 = .ok (.iinc 6 1, 3) := by decide +kernel
theorem d_Pla_cutBy_169 : decode b_Pla_cutBy 169 = .ok (.goto (-155), 3) := by decide +kernel
theorem d_Pla_cutBy_172 : decode b_Pla_cutBy 172 = .ok (.lload 4, 2) := by decide +kernel
theorem d_Pla_cutBy_174 : decode b_Pla_cutBy 174 = .ok (.lreturn, 1) := by decide +kernel
theorem d_Pla_measurePoints_0 : decode b_Pla_measurePoints 0 = .ok (.aload_n 0, 1) := by decide +kernel
theorem d_Pla_measurePoints_1 : decode b_Pla_measurePoints 1 = .ok (.iconst 0, 1) := by decide +kernel
theorem d_Pla_measurePoints_2 : decode b_Pla_measurePoints 2 = .ok (.putfield 45, 3) := by decide +kernel
theorem d_Pla_measurePoints_5 : decode b_Pla_measurePoints 5 = .ok (.iconst 0, 1) := by decide +kernel
theorem d_Pla_measurePoints_6 : decode b_Pla_measurePoints 6 = .ok (.istore_n 1, 1) := by decide +kernel
theorem d_Pla_measurePoints_7 : decode b_Pla_measurePoints 7 = .ok (.iload_n 1, 1) := by decide +kernel
theorem d_Pla_measurePoints_8 : decode b_Pla_measurePoints 8 = .ok (.aload_n 0, 1) := by decide +kernel
theorem d_Pla_measurePoints_9 : decode b_Pla_measurePoints 9 = .ok (.getfield 27, 3) := by decide +kernel
theorem d_Pla_measurePoints_12 : decode b_Pla_measurePoints 12 = .ok (.getfield 49, 3) := by decide +kernel
theorem d_Pla_measurePoints_15 : decode b_Pla_measurePoints 15 = .ok (.if_icmp .ge 179, 3) := by decide +kernel
theorem d_Pla_measurePoints_18 : decode b_Pla_measurePoints 18 = .ok (.iload_n 1, 1) := by decide +kernel
theorem d_Pla_measurePoints_19 : decode b_Pla_measurePoints 19 = .ok (.iconst 1, 1) := by decide +kernel
theorem d_Pla_measurePoints_20 : decode b_Pla_measurePoints 20 = .ok (.iadd, 1) := by decide +kernel
theorem d_Pla_measurePoints_21 : decode b_Pla_measurePoints 21 = .ok (.istore_n 2, 1) := by decide +kernel
theorem d_Pla_measurePoints_22 : decode b_Pla_measurePoints 22 = .ok (.iload_n 2, 1) := by decide +kernel
theorem d_Pla_measurePoints_23 : decode b_Pla_measurePoints 23 = .ok (.aload_n 0, 1) := by decide +kernel
theorem d_Pla_measurePoints_24 : decode b_Pla_measurePoints 24 = .ok (.getfield 27, 3) := by decide +kernel
theorem d_Pla_measurePoints_27 : decode b_Pla_measurePoints 27 = .ok (.getfield 49, 3) := by decide +kernel
theorem d_Pla_measurePoints_30 : decode b_Pla_measurePoints 30 = .ok (.if_icmp .ge 158, 3) := by decide +kernel
theorem d_Pla_measurePoints_33 : decode b_Pla_measurePoints 33 = .ok (.aload_n 0, 1) := by decide +kernel
theorem d_Pla_measurePoints_34 : decode b_Pla_measurePoints 34 = .ok (.getfield 27, 3) := by decide +kernel
theorem d_Pla_measurePoints_37 : decode b_Pla_measurePoints 37 = .ok (.iload_n 1, 1) := by decide +kernel
theorem d_Pla_measurePoints_38 : decode b_Pla_measurePoints 38 = .ok (.iload_n 2, 1) := by decide +kernel
theorem d_Pla_measurePoints_39 : decode b_Pla_measurePoints 39 = .ok (.invokevirtual 122, 3) := by decide +kernel
theorem d_Pla_measurePoints_42 : decode b_Pla_measurePoints 42 = .ok (.istore_n 3, 1) := by decide +kernel
theorem d_Pla_measurePoints_43 : decode b_Pla_measurePoints 43 = .ok (.aload_n 0, 1) := by decide +kernel
theorem d_Pla_measurePoints_44 : decode b_Pla_measurePoints 44 = .ok (.getfield 27, 3) := by decide +kernel
theorem d_Pla_measurePoints_47 : decode b_Pla_measurePoints 47 = .ok (.iload_n 1, 1) := by decide +kernel
theorem d_Pla_measurePoints_48 : decode b_Pla_measurePoints 48 = .ok (.iload_n 2, 1) := by decide +kernel
theorem d_Pla_measurePoints_49 : decode b_Pla_measurePoints 49 = .ok (.invokevirtual 125, 3) := by decide +kernel
theorem d_Pla_measurePoints_52 : decode b_Pla_measurePoints 52 = .ok (.istore 4, 2) := by decide +kernel
theorem d_Pla_measurePoints_54 : decode b_Pla_measurePoints 54 = .ok (.aload_n 0, 1) := by decide +kernel
theorem d_Pla_measurePoints_55 : decode b_Pla_measurePoints 55 = .ok (.getfield 27, 3) := by decide +kernel
theorem d_Pla_measurePoints_58 : decode b_Pla_measurePoints 58 = .ok (.iload_n 1, 1) := by decide +kernel
theorem d_Pla_measurePoints_59 : decode b_Pla_measurePoints 59 = .ok (.iload_n 2, 1) := by decide +kernel
theorem d_Pla_measurePoints_60 : decode b_Pla_measurePoints 60 = .ok (.invokevirtual 128, 3) := by decide +kernel
theorem d_Pla_measurePoints_63 : decode b_Pla_measurePoints 63 = .ok (.istore 5, 2) := by decide +kernel
theorem d_Pla_measurePoints_65 : decode b_Pla_measurePoints 65 = .ok (.aload_n 0, 1) := by decide +kernel
theorem d_Pla_measurePoints_66 : decode b_Pla_measurePoints 66 = .ok (.iload_n 3, 1) := by decide +kernel
theorem d_Pla_measurePoints_67 : decode b_Pla_measurePoints 67 = .ok (.iload 4, 2) := by decide +kernel
theorem d_Pla_measurePoints_69 : decode b_Pla_measurePoints 69 = .ok (.iload 5, 2) := by decide +kernel
theorem d_Pla_measurePoints_71 : decode b_Pla_measurePoints 71 = .ok (.invokevirtual 89, 3) := by decide +kernel
theorem d_Pla_measurePoints_74 : decode b_Pla_measurePoints 74 = .ok (.istore 6, 2) := by decide +kernel
theorem d_Pla_measurePoints_76 : decode b_Pla_measurePoints 76 = .ok (.iload 6, 2) := by decide +kernel
theorem d_Pla_measurePoints_78 : decode b_Pla_measurePoints 78 = .ok (.iconst 1, 1) := by decide +kernel
theorem d_Pla_measurePoints_79 : decode b_Pla_measurePoints 79 = .ok (.iload_n 2, 1) := by decide +kernel
theorem d_Pla_measurePoints_80 : decode b_Pla_measurePoints 80 = .ok (.ishl, 1) := by decide +kernel
theorem d_Pla_measurePoints_81 : decode b_Pla_measurePoints 81 = .ok (.iconst 1, 1) := by decide +kernel
theorem d_Pla_measurePoints_82 : decode b_Pla_measurePoints 82 = .ok (.isub, 1) := by decide +kernel
theorem d_Pla_measurePoints_83 : decode b_Pla_measurePoints 83 = .ok (.iand, 1) := by decide +kernel
theorem d_Pla_measurePoints_84 : decode b_Pla_measurePoints 84 = .ok (.iconst 1, 1) := by decide +kernel
theorem d_Pla_measurePoints_85 : decode b_Pla_measurePoints 85 = .ok (.iload_n 1, 1) := by decide +kernel
theorem d_Pla_measurePoints_86 : decode b_Pla_measurePoints 86 = .ok (.ishl, 1) := by decide +kernel
theorem d_Pla_measurePoints_87 : decode b_Pla_measurePoints 87 = .ok (.if_icmp .ne 7, 3) := by decide +kernel
theorem d_Pla_measurePoints_90 : decode b_Pla_measurePoints 90 = .ok (.iconst 1, 1) := by decide +kernel
theorem d_Pla_measurePoints_91 : decode b_Pla_measurePoints 91 = .ok (.goto 4, 3) := by decide +kernel
theorem d_Pla_measurePoints_94 : decode b_Pla_measurePoints 94 = .ok (.iconst 0, 1) := by decide +kernel
theorem d_Pla_measurePoints_95 : decode b_Pla_measurePoints 95 = .ok (.istore 7, 2) := by decide +kernel
theorem d_Pla_measurePoints_97 : decode b_Pla_measurePoints 97 = .ok (.iload 7, 2) := by decide +kernel
theorem d_Pla_measurePoints_99 : decode b_Pla_measurePoints 99 = .ok (.ifCond .eq 83, 3) := by decide +kernel
theorem d_Pla_measurePoints_102 : decode b_Pla_measurePoints 102 = .ok (.aload_n 0, 1) := by decide +kernel
theorem d_Pla_measurePoints_103 : decode b_Pla_measurePoints 103 = .ok (.getfield 45, 3) := by decide +kernel
theorem d_Pla_measurePoints_106 : decode b_Pla_measurePoints 106 = .ok (.bipush 15, 2) := by decide +kernel
theorem d_Pla_measurePoints_108 : decode b_Pla_measurePoints 108 = .ok (.if_icmp .ge 74, 3) := by decide +kernel
theorem d_Pla_measurePoints_111 : decode b_Pla_measurePoints 111 = .ok (.aload_n 0, 1) := by decide +kernel
theorem d_Pla_measurePoints_112 : decode b_Pla_measurePoints 112 = .ok (.getfield 9, 3) := by decide +kernel
theorem d_Pla_measurePoints_115 : decode b_Pla_measurePoints 115 = .ok (.aload_n 0, 1) := by decide +kernel
theorem d_Pla_measurePoints_116 : decode b_Pla_measurePoints 116 = .ok (.getfield 45, 3) := by decide +kernel
theorem d_Pla_measurePoints_119 : decode b_Pla_measurePoints 119 = .ok (.iload_n 3, 1) := by decide +kernel
theorem d_Pla_measurePoints_120 : decode b_Pla_measurePoints 120 = .ok (.iastore, 1) := by decide +kernel
theorem d_Pla_measurePoints_121 : decode b_Pla_measurePoints 121 = .ok (.aload_n 0, 1) := by decide +kernel
theorem d_Pla_measurePoints_122 : decode b_Pla_measurePoints 122 = .ok (.getfield 15, 3) := by decide +kernel
theorem d_Pla_measurePoints_125 : decode b_Pla_measurePoints 125 = .ok (.aload_n 0, 1) := by decide +kernel
theorem d_Pla_measurePoints_126 : decode b_Pla_measurePoints 126 = .ok (.getfield 45, 3) := by decide +kernel
theorem d_Pla_measurePoints_129 : decode b_Pla_measurePoints 129 = .ok (.iload 4, 2) := by decide +kernel
theorem d_Pla_measurePoints_131 : decode b_Pla_measurePoints 131 = .ok (.iastore, 1) := by decide +kernel
theorem d_Pla_measurePoints_132 : decode b_Pla_measurePoints 132 = .ok (.aload_n 0, 1) := by decide +kernel
theorem d_Pla_measurePoints_133 : decode b_Pla_measurePoints 133 = .ok (.getfield 18, 3) := by decide +kernel
theorem d_Pla_measurePoints_136 : decode b_Pla_measurePoints 136 = .ok (.aload_n 0, 1) := by decide +kernel
theorem d_Pla_measurePoints_137 : decode b_Pla_measurePoints 137 = .ok (.getfield 45, 3) := by decide +kernel
theorem d_Pla_measurePoints_140 : decode b_Pla_measurePoints 140 = .ok (.iload 5, 2) := by decide +kernel
theorem d_Pla_measurePoints_142 : decode b_Pla_measurePoints 142 = .ok (.iastore, 1) := by decide +kernel
theorem d_Pla_measurePoints_143 : decode b_Pla_measurePoints 143 = .ok (.aload_n 0, 1) := by decide +kernel
theorem d_Pla_measurePoints_144 : decode b_Pla_measurePoints 144 = .ok (.getfield 21, 3) := by decide +kernel
theorem d_Pla_measurePoints_147 : decode b_Pla_measurePoints 147 = .ok (.aload_n 0, 1) := by decide +kernel
theorem d_Pla_measurePoints_148 : decode b_Pla_measurePoints 148 = .ok (.getfield 45, 3) := by decide +kernel
theorem d_Pla_measurePoints_151 : decode b_Pla_measurePoints 151 = .ok (.iload 6, 2) := by decide +kernel
theorem d_Pla_measurePoints_153 : decode b_Pla_measurePoints 153 = .ok (.iastore, 1) := by decide +kernel
theorem d_Pla_measurePoints_154 : decode b_Pla_measurePoints 154 = .ok (.aload_n 0, 1) := by decide +kernel
theorem d_Pla_measurePoints_155 : decode b_Pla_measurePoints 155 = .ok (.getfield 24, 3) := by decide +kernel
theorem d_Pla_measurePoints_158 : decode b_Pla_measurePoints 158 = .ok (.aload_n 0, 1) := by decide +kernel
theorem d_Pla_measurePoints_159 : decode b_Pla_measurePoints 159 = .ok (.getfield 45, 3) := by decide +kernel
theorem d_Pla_measurePoints_162 : decode b_Pla_measurePoints 162 = .ok (.aload_n 0, 1) := by decide +kernel
theorem d_Pla_measurePoints_163 : decode b_Pla_measurePoints 163 = .ok (.iload_n 3, 1) := by decide +kernel
theorem d_Pla_measurePoints_164 : decode b_Pla_measurePoints 164 = .ok (.iload 4, 2) := by decide +kernel
theorem d_Pla_measurePoints_166 : decode b_Pla_measurePoints 166 = .ok (.iload 5, 2) := by decide +kernel
theorem d_Pla_measurePoints_168 : decode b_Pla_measurePoints 168 = .ok (.invokevirtual 93, 3) := by decide +kernel
theorem d_Pla_measurePoints_171 : decode b_Pla_measurePoints 171 = .ok (.iastore, 1) := by decide +kernel
theorem d_Pla_measurePoints_172 : decode b_Pla_measurePoints 172 = .ok (.aload_n 0, 1) := by decide +kernel
theorem d_Pla_measurePoints_173 : decode b_Pla_measurePoints 173 = .ok (.dup, 1) := by decide +kernel
theorem d_Pla_measurePoints_174 : decode b_Pla_measurePoints 174 = .ok (.getfield 45, 3) := by decide +kernel
theorem d_Pla_measurePoints_177 : decode b_Pla_measurePoints 177 = .ok (.iconst 1, 1) := by decide +kernel
theorem d_Pla_measurePoints_178 : decode b_Pla_measurePoints 178 = .ok (.iadd, 1) := by decide +kernel
theorem d_Pla_measurePoints_179 : decode b_Pla_measurePoints 179 = .ok (.putfield 45, 3) := by decide +kernel
theorem d_Pla_measurePoints_182 : decode b_Pla_measurePoints 182 = .ok (.iinc 2 1, 3) := by decide +kernel
theorem d_Pla_measurePoints_185 : decode b_Pla_measurePoints 185 = .ok (.goto (-163), 3) := by decide +kernel
theorem d_Pla_measurePoints_188 : decode b_Pla_measurePoints 188 = .ok (.iinc 1 1, 3) := by decide +kernel
theorem d_Pla_measurePoints_191 : decode b_Pla_measurePoints 191 = .ok (.goto (-184), 3) := by decide +kernel
theorem d_Pla_measurePoints_194 : decode b_Pla_measurePoints 194 = .ok (.return_, 1) := by decide +kernel
theorem d_Pla_measureQuarters_0 : decode b_Pla_measureQuarters 0 = .ok (.aload_n 0, 1) := by decide +kernel
theorem d_Pla_measureQuarters_1 : decode b_Pla_measureQuarters 1 = .ok (.aload_n 0, 1) := by decide +kernel
theorem d_Pla_measureQuarters_2 : decode b_Pla_measureQuarters 2 = .ok (.getfield 27, 3) := by decide +kernel
theorem d_Pla_measureQuarters_5 : decode b_Pla_measureQuarters 5 = .ok (.getfield 49, 3) := by decide +kernel
theorem d_Pla_measureQuarters_8 : decode b_Pla_measureQuarters 8 = .ok (.ifCond .ne 7, 3) := by decide +kernel
theorem d_Pla_measureQuarters_11 : decode b_Pla_measureQuarters 11 = .ok (.lconst 1, 1) := by decide +kernel
theorem d_Pla_measureQuarters_12 : decode b_Pla_measureQuarters 12 = .ok (.goto 4, 3) := by decide +kernel
theorem d_Pla_measureQuarters_15 : decode b_Pla_measureQuarters 15 = .ok (.lconst 0, 1) := by decide +kernel
theorem d_Pla_measureQuarters_16 : decode b_Pla_measureQuarters 16 = .ok (.putfield 37, 3) := by decide +kernel
theorem d_Pla_measureQuarters_19 : decode b_Pla_measureQuarters 19 = .ok (.aload_n 0, 1) := by decide +kernel
theorem d_Pla_measureQuarters_20 : decode b_Pla_measureQuarters 20 = .ok (.aload_n 0, 1) := by decide +kernel
theorem d_Pla_measureQuarters_21 : decode b_Pla_measureQuarters 21 = .ok (.getfield 37, 3) := by decide +kernel
theorem d_Pla_measureQuarters_24 : decode b_Pla_measureQuarters 24 = .ok (.putfield 131, 3) := by decide +kernel
theorem d_Pla_measureQuarters_27 : decode b_Pla_measureQuarters 27 = .ok (.iconst 0, 1) := by decide +kernel
theorem d_Pla_measureQuarters_28 : decode b_Pla_measureQuarters 28 = .ok (.istore_n 1, 1) := by decide +kernel
theorem d_Pla_measureQuarters_29 : decode b_Pla_measureQuarters 29 = .ok (.iload_n 1, 1) := by decide +kernel
theorem d_Pla_measureQuarters_30 : decode b_Pla_measureQuarters 30 = .ok (.aload_n 0, 1) := by decide +kernel
theorem d_Pla_measureQuarters_31 : decode b_Pla_measureQuarters 31 = .ok (.getfield 27, 3) := by decide +kernel
theorem d_Pla_measureQuarters_34 : decode b_Pla_measureQuarters 34 = .ok (.getfield 49, 3) := by decide +kernel
theorem d_Pla_measureQuarters_37 : decode b_Pla_measureQuarters 37 = .ok (.if_icmp .ge 93, 3) := by decide +kernel
theorem d_Pla_measureQuarters_40 : decode b_Pla_measureQuarters 40 = .ok (.aload_n 0, 1) := by decide +kernel
theorem d_Pla_measureQuarters_41 : decode b_Pla_measureQuarters 41 = .ok (.getfield 27, 3) := by decide +kernel
theorem d_Pla_measureQuarters_44 : decode b_Pla_measureQuarters 44 = .ok (.getfield 119, 3) := by decide +kernel
theorem d_Pla_measureQuarters_47 : decode b_Pla_measureQuarters 47 = .ok (.iload_n 1, 1) := by decide +kernel
theorem d_Pla_measureQuarters_48 : decode b_Pla_measureQuarters 48 = .ok (.iaload, 1) := by decide +kernel
theorem d_Pla_measureQuarters_49 : decode b_Pla_measureQuarters 49 = .ok (.istore_n 2, 1) := by decide +kernel
theorem d_Pla_measureQuarters_50 : decode b_Pla_measureQuarters 50 = .ok (.aload_n 0, 1) := by decide +kernel
theorem d_Pla_measureQuarters_51 : decode b_Pla_measureQuarters 51 = .ok (.getfield 27, 3) := by decide +kernel
theorem d_Pla_measureQuarters_54 : decode b_Pla_measureQuarters 54 = .ok (.getfield 113, 3) := by decide +kernel
theorem d_Pla_measureQuarters_57 : decode b_Pla_measureQuarters 57 = .ok (.iload_n 1, 1) := by decide +kernel
theorem d_Pla_measureQuarters_58 : decode b_Pla_measureQuarters 58 = .ok (.iaload, 1) := by decide +kernel
theorem d_Pla_measureQuarters_59 : decode b_Pla_measureQuarters 59 = .ok (.istore_n 3, 1) := by decide +kernel
theorem d_Pla_measureQuarters_60 : decode b_Pla_measureQuarters 60 = .ok (.lconst 1, 1) := by decide +kernel
theorem d_Pla_measureQuarters_61 : decode b_Pla_measureQuarters 61 = .ok (.aload_n 0, 1) := by decide +kernel
theorem d_Pla_measureQuarters_62 : decode b_Pla_measureQuarters 62 = .ok (.iload_n 2, 1) := by decide +kernel
theorem d_Pla_measureQuarters_63 : decode b_Pla_measureQuarters 63 = .ok (.iload_n 3, 1) := by decide +kernel
theorem d_Pla_measureQuarters_64 : decode b_Pla_measureQuarters 64 = .ok (.iconst 1, 1) := by decide +kernel
theorem d_Pla_measureQuarters_65 : decode b_Pla_measureQuarters 65 = .ok (.invokevirtual 107, 3) := by decide +kernel
theorem d_Pla_measureQuarters_68 : decode b_Pla_measureQuarters 68 = .ok (.lshl, 1) := by decide +kernel
theorem d_Pla_measureQuarters_69 : decode b_Pla_measureQuarters 69 = .ok (.lconst 1, 1) := by decide +kernel
theorem d_Pla_measureQuarters_70 : decode b_Pla_measureQuarters 70 = .ok (.aload_n 0, 1) := by decide +kernel
theorem d_Pla_measureQuarters_71 : decode b_Pla_measureQuarters 71 = .ok (.iload_n 2, 1) := by decide +kernel
theorem d_Pla_measureQuarters_72 : decode b_Pla_measureQuarters 72 = .ok (.iload_n 3, 1) := by decide +kernel
theorem d_Pla_measureQuarters_73 : decode b_Pla_measureQuarters 73 = .ok (.iconst (-1), 1) := by decide +kernel
theorem d_Pla_measureQuarters_74 : decode b_Pla_measureQuarters 74 = .ok (.invokevirtual 107, 3) := by decide +kernel
theorem d_Pla_measureQuarters_77 : decode b_Pla_measureQuarters 77 = .ok (.lshl, 1) := by decide +kernel
theorem d_Pla_measureQuarters_78 : decode b_Pla_measureQuarters 78 = .ok (.lor, 1) := by decide +kernel
theorem d_Pla_measureQuarters_79 : decode b_Pla_measureQuarters 79 = .ok (.lstore 4, 2) := by decide +kernel
theorem d_Pla_measureQuarters_81 : decode b_Pla_measureQuarters 81 = .ok (.aload_n 0, 1) := by decide +kernel
theorem d_Pla_measureQuarters_82 : decode b_Pla_measureQuarters 82 = .ok (.dup, 1) := by decide +kernel
theorem d_Pla_measureQuarters_83 : decode b_Pla_measureQuarters 83 = .ok (.getfield 37, 3) := by decide +kernel
theorem d_Pla_measureQuarters_86 : decode b_Pla_measureQuarters 86 = .ok (.aload_n 0, 1) := by decide +kernel
theorem d_Pla_measureQuarters_87 : decode b_Pla_measureQuarters 87 = .ok (.iload_n 2, 1) := by decide +kernel
theorem d_Pla_measureQuarters_88 : decode b_Pla_measureQuarters 88 = .ok (.iload_n 3, 1) := by decide +kernel
theorem d_Pla_measureQuarters_89 : decode b_Pla_measureQuarters 89 = .ok (.aload_n 0, 1) := by decide +kernel
theorem d_Pla_measureQuarters_90 : decode b_Pla_measureQuarters 90 = .ok (.getfield 27, 3) := by decide +kernel
theorem d_Pla_measureQuarters_93 : decode b_Pla_measureQuarters 93 = .ok (.getfield 116, 3) := by decide +kernel
theorem d_Pla_measureQuarters_96 : decode b_Pla_measureQuarters 96 = .ok (.iload_n 1, 1) := by decide +kernel
theorem d_Pla_measureQuarters_97 : decode b_Pla_measureQuarters 97 = .ok (.iaload, 1) := by decide +kernel
theorem d_Pla_measureQuarters_98 : decode b_Pla_measureQuarters 98 = .ok (.invokevirtual 134, 3) := by decide +kernel
theorem d_Pla_measureQuarters_101 : decode b_Pla_measureQuarters 101 = .ok (.iload_n 1, 1) := by decide +kernel
theorem d_Pla_measureQuarters_102 : decode b_Pla_measureQuarters 102 = .ok (.invokestatic 138, 3) := by decide +kernel
theorem d_Pla_measureQuarters_105 : decode b_Pla_measureQuarters 105 = .ok (.lor, 1) := by decide +kernel
theorem d_Pla_measureQuarters_106 : decode b_Pla_measureQuarters 106 = .ok (.putfield 37, 3) := by decide +kernel
theorem d_Pla_measureQuarters_109 : decode b_Pla_measureQuarters 109 = .ok (.aload_n 0, 1) := by decide +kernel
theorem d_Pla_measureQuarters_110 : decode b_Pla_measureQuarters 110 = .ok (.dup, 1) := by decide +kernel
theorem d_Pla_measureQuarters_111 : decode b_Pla_measureQuarters 111 = .ok (.getfield 131, 3) := by decide +kernel
theorem d_Pla_measureQuarters_114 : decode b_Pla_measureQuarters 114 = .ok (.lload 4, 2) := by decide +kernel
theorem d_Pla_measureQuarters_116 : decode b_Pla_measureQuarters 116 = .ok (.iload_n 1, 1) := by decide +kernel
theorem d_Pla_measureQuarters_117 : decode b_Pla_measureQuarters 117 = .ok (.invokestatic 138, 3) := by decide +kernel
theorem d_Pla_measureQuarters_120 : decode b_Pla_measureQuarters 120 = .ok (.lor, 1) := by decide +kernel
theorem d_Pla_measureQuarters_121 : decode b_Pla_measureQuarters 121 = .ok (.putfield 131, 3) := by decide +kernel
theorem d_Pla_measureQuarters_124 : decode b_Pla_measureQuarters 124 = .ok (.iinc 1 1, 3) := by decide +kernel
theorem d_Pla_measureQuarters_127 : decode b_Pla_measureQuarters 127 = .ok (.goto (-98), 3) := by decide +kernel
theorem d_Pla_measureQuarters_130 : decode b_Pla_measureQuarters 130 = .ok (.return_, 1) := by decide +kernel
theorem d_Pla_onBothSides_0 : decode b_Pla_onBothSides 0 = .ok (.lload_n 0, 1) := by decide +kernel
theorem d_Pla_onBothSides_1 : decode b_Pla_onBothSides 1 = .ok (.lload_n 0, 1) := by decide +kernel
theorem d_Pla_onBothSides_2 : decode b_Pla_onBothSides 2 = .ok (.iconst 1, 1) := by decide +kernel
theorem d_Pla_onBothSides_3 : decode b_Pla_onBothSides 3 = .ok (.iload_n 2, 1) := by decide +kernel
theorem d_Pla_onBothSides_4 : decode b_Pla_onBothSides 4 = .ok (.ishl, 1) := by decide +kernel
theorem d_Pla_onBothSides_5 : decode b_Pla_onBothSides 5 = .ok (.lshl, 1) := by decide +kernel
theorem d_Pla_onBothSides_6 : decode b_Pla_onBothSides 6 = .ok (.lor, 1) := by decide +kernel
theorem d_Pla_onBothSides_7 : decode b_Pla_onBothSides 7 = .ok (.lreturn, 1) := by decide +kernel
theorem d_Pla_isSquare_0 : decode b_Pla_isSquare 0 = .ok (.aload_n 0, 1) := by decide +kernel
theorem d_Pla_isSquare_1 : decode b_Pla_isSquare 1 = .ok (.getfield 21, 3) := by decide +kernel
theorem d_Pla_isSquare_4 : decode b_Pla_isSquare 4 = .ok (.iload_n 1, 1) := by decide +kernel
theorem d_Pla_isSquare_5 : decode b_Pla_isSquare 5 = .ok (.iaload, 1) := by decide +kernel
theorem d_Pla_isSquare_6 : decode b_Pla_isSquare 6 = .ok (.invokestatic 61, 3) := by decide +kernel
theorem d_Pla_isSquare_9 : decode b_Pla_isSquare 9 = .ok (.iconst 3, 1) := by decide +kernel
theorem d_Pla_isSquare_10 : decode b_Pla_isSquare 10 = .ok (.if_icmp .lt 7, 3) := by decide +kernel
theorem d_Pla_isSquare_13 : decode b_Pla_isSquare 13 = .ok (.iconst 1, 1) := by decide +kernel
theorem d_Pla_isSquare_14 : decode b_Pla_isSquare 14 = .ok (.goto 4, 3) := by decide +kernel
theorem d_Pla_isSquare_17 : decode b_Pla_isSquare 17 = .ok (.iconst 0, 1) := by decide +kernel
theorem d_Pla_isSquare_18 : decode b_Pla_isSquare 18 = .ok (.ireturn, 1) := by decide +kernel
theorem d_Pla_lampsAt_0 : decode b_Pla_lampsAt 0 = .ok (.iconst 1, 1) := by decide +kernel
theorem d_Pla_lampsAt_1 : decode b_Pla_lampsAt 1 = .ok (.istore_n 3, 1) := by decide +kernel
theorem d_Pla_lampsAt_2 : decode b_Pla_lampsAt 2 = .ok (.iconst 2, 1) := by decide +kernel
theorem d_Pla_lampsAt_3 : decode b_Pla_lampsAt 3 = .ok (.iload_n 3, 1) := by decide +kernel
theorem d_Pla_lampsAt_4 : decode b_Pla_lampsAt 4 = .ok (.imul, 1) := by decide +kernel
theorem d_Pla_lampsAt_5 : decode b_Pla_lampsAt 5 = .ok (.istore 4, 2) := by decide +kernel
theorem d_Pla_lampsAt_7 : decode b_Pla_lampsAt 7 = .ok (.iconst 0, 1) := by decide +kernel
theorem d_Pla_lampsAt_8 : decode b_Pla_lampsAt 8 = .ok (.istore 5, 2) := by decide +kernel
theorem d_Pla_lampsAt_10 : decode b_Pla_lampsAt 10 = .ok (.aload_n 0, 1) := by decide +kernel
theorem d_Pla_lampsAt_11 : decode b_Pla_lampsAt 11 = .ok (.getfield 27, 3) := by decide +kernel
theorem d_Pla_lampsAt_14 : decode b_Pla_lampsAt 14 = .ok (.getfield 142, 3) := by decide +kernel
theorem d_Pla_lampsAt_17 : decode b_Pla_lampsAt 17 = .ok (.iload_n 1, 1) := by decide +kernel
theorem d_Pla_lampsAt_18 : decode b_Pla_lampsAt 18 = .ok (.iaload, 1) := by decide +kernel
theorem d_Pla_lampsAt_19 : decode b_Pla_lampsAt 19 = .ok (.tableswitch 81 1 5 #[33, 36, 39, 53, 57], 33) := by decide +kernel
theorem d_Pla_lampsAt_52 : decode b_Pla_lampsAt 52 = .ok (.iload 4, 2) := by decide +kernel
theorem d_Pla_lampsAt_54 : decode b_Pla_lampsAt 54 = .ok (.ireturn, 1) := by decide +kernel
theorem d_Pla_lampsAt_55 : decode b_Pla_lampsAt 55 = .ok (.iload 5, 2) := by decide +kernel
theorem d_Pla_lampsAt_57 : decode b_Pla_lampsAt 57 = .ok (.ireturn, 1) := by decide +kernel
theorem d_Pla_lampsAt_58 : decode b_Pla_lampsAt 58 = .ok (.iload_n 2, 1) := by decide +kernel
theorem d_Pla_lampsAt_59 : decode b_Pla_lampsAt 59 = .ok (.ifCond .eq 10, 3) := by decide +kernel
theorem d_Pla_lampsAt_62 : decode b_Pla_lampsAt 62 = .ok (.iload 4, 2) := by decide +kernel
theorem d_Pla_lampsAt_64 : decode b_Pla_lampsAt 64 = .ok (.iconst 5, 1) := by decide +kernel
theorem d_Pla_lampsAt_65 : decode b_Pla_lampsAt 65 = .ok (.iadd, 1) := by decide +kernel
theorem d_Pla_lampsAt_66 : decode b_Pla_lampsAt 66 = .ok (.goto 5, 3) := by decide +kernel
theorem d_Pla_lampsAt_69 : decode b_Pla_lampsAt 69 = .ok (.iload 4, 2) := by decide +kernel
theorem d_Pla_lampsAt_71 : decode b_Pla_lampsAt 71 = .ok (.ireturn, 1) := by decide +kernel
theorem d_Pla_lampsAt_72 : decode b_Pla_lampsAt 72 = .ok (.iload_n 3, 1) := by decide +kernel
theorem d_Pla_lampsAt_73 : decode b_Pla_lampsAt 73 = .ok (.iload_n 1, 1) := by decide +kernel
theorem d_Pla_lampsAt_74 : decode b_Pla_lampsAt 74 = .ok (.iadd, 1) := by decide +kernel
theorem d_Pla_lampsAt_75 : decode b_Pla_lampsAt 75 = .ok (.ireturn, 1) := by decide +kernel
theorem d_Pla_lampsAt_76 : decode b_Pla_lampsAt 76 = .ok (.iload_n 1, 1) := by decide +kernel
theorem d_Pla_lampsAt_77 : decode b_Pla_lampsAt 77 = .ok (.aload_n 0, 1) := by decide +kernel
theorem d_Pla_lampsAt_78 : decode b_Pla_lampsAt 78 = .ok (.getfield 27, 3) := by decide +kernel
theorem d_Pla_lampsAt_81 : decode b_Pla_lampsAt 81 = .ok (.getfield 49, 3) := by decide +kernel
theorem d_Pla_lampsAt_84 : decode b_Pla_lampsAt 84 = .ok (.iconst 1, 1) := by decide +kernel
theorem d_Pla_lampsAt_85 : decode b_Pla_lampsAt 85 = .ok (.isub, 1) := by decide +kernel
theorem d_Pla_lampsAt_86 : decode b_Pla_lampsAt 86 = .ok (.if_icmp .ne 11, 3) := by decide +kernel
theorem d_Pla_lampsAt_89 : decode b_Pla_lampsAt 89 = .ok (.iload 5, 2) := by decide +kernel
theorem d_Pla_lampsAt_91 : decode b_Pla_lampsAt 91 = .ok (.bipush 7, 2) := by decide +kernel
theorem d_Pla_lampsAt_93 : decode b_Pla_lampsAt 93 = .ok (.iadd, 1) := by decide +kernel
theorem d_Pla_lampsAt_94 : decode b_Pla_lampsAt 94 = .ok (.goto 5, 3) := by decide +kernel
theorem d_Pla_lampsAt_97 : decode b_Pla_lampsAt 97 = .ok (.iload 5, 2) := by decide +kernel
theorem d_Pla_lampsAt_99 : decode b_Pla_lampsAt 99 = .ok (.ireturn, 1) := by decide +kernel
theorem d_Pla_lampsAt_100 : decode b_Pla_lampsAt 100 = .ok (.iload_n 3, 1) := by decide +kernel
theorem d_Pla_lampsAt_101 : decode b_Pla_lampsAt 101 = .ok (.ireturn, 1) := by decide +kernel
theorem d_Pla_height_0 : decode b_Pla_height 0 = .ok (.aload_n 0, 1) := by decide +kernel
theorem d_Pla_height_1 : decode b_Pla_height 1 = .ok (.getfield 27, 3) := by decide +kernel
theorem d_Pla_height_4 : decode b_Pla_height 4 = .ok (.getfield 119, 3) := by decide +kernel
theorem d_Pla_height_7 : decode b_Pla_height 7 = .ok (.iload 4, 2) := by decide +kernel
theorem d_Pla_height_9 : decode b_Pla_height 9 = .ok (.iaload, 1) := by decide +kernel
theorem d_Pla_height_10 : decode b_Pla_height 10 = .ok (.iload_n 1, 1) := by decide +kernel
theorem d_Pla_height_11 : decode b_Pla_height 11 = .ok (.imul, 1) := by decide +kernel
theorem d_Pla_height_12 : decode b_Pla_height 12 = .ok (.aload_n 0, 1) := by decide +kernel
theorem d_Pla_height_13 : decode b_Pla_height 13 = .ok (.getfield 27, 3) := by decide +kernel
theorem d_Pla_height_16 : decode b_Pla_height 16 = .ok (.getfield 113, 3) := by decide +kernel
theorem d_Pla_height_19 : decode b_Pla_height 19 = .ok (.iload 4, 2) := by decide +kernel
theorem d_Pla_height_21 : decode b_Pla_height 21 = .ok (.iaload, 1) := by decide +kernel
theorem d_Pla_height_22 : decode b_Pla_height 22 = .ok (.iload_n 2, 1) := by decide +kernel
theorem d_Pla_height_23 : decode b_Pla_height 23 = .ok (.imul, 1) := by decide +kernel
theorem d_Pla_height_24 : decode b_Pla_height 24 = .ok (.iadd, 1) := by decide +kernel
theorem d_Pla_height_25 : decode b_Pla_height 25 = .ok (.aload_n 0, 1) := by decide +kernel
theorem d_Pla_height_26 : decode b_Pla_height 26 = .ok (.getfield 27, 3) := by decide +kernel
theorem d_Pla_height_29 : decode b_Pla_height 29 = .ok (.getfield 116, 3) := by decide +kernel
theorem d_Pla_height_32 : decode b_Pla_height 32 = .ok (.iload 4, 2) := by decide +kernel
theorem d_Pla_height_34 : decode b_Pla_height 34 = .ok (.iaload, 1) := by decide +kernel
theorem d_Pla_height_35 : decode b_Pla_height 35 = .ok (.iload_n 3, 1) := by decide +kernel
theorem d_Pla_height_36 : decode b_Pla_height 36 = .ok (.imul, 1) := by decide +kernel
theorem d_Pla_height_37 : decode b_Pla_height 37 = .ok (.isub, 1) := by decide +kernel
theorem d_Pla_height_38 : decode b_Pla_height 38 = .ok (.ireturn, 1) := by decide +kernel
theorem d_Pla_sidesOfPoint_0 : decode b_Pla_sidesOfPoint 0 = .ok (.iconst 0, 1) := by decide +kernel
theorem d_Pla_sidesOfPoint_1 : decode b_Pla_sidesOfPoint 1 = .ok (.istore 4, 2) := by decide +kernel
theorem d_Pla_sidesOfPoint_3 : decode b_Pla_sidesOfPoint 3 = .ok (.iconst 0, 1) := by decide +kernel
theorem d_Pla_sidesOfPoint_4 : decode b_Pla_sidesOfPoint 4 = .ok (.istore 5, 2) := by decide +kernel
theorem d_Pla_sidesOfPoint_6 : decode b_Pla_sidesOfPoint 6 = .ok (.iload 5, 2) := by decide +kernel
theorem d_Pla_sidesOfPoint_8 : decode b_Pla_sidesOfPoint 8 = .ok (.aload_n 0, 1) := by decide +kernel
theorem d_Pla_sidesOfPoint_9 : decode b_Pla_sidesOfPoint 9 = .ok (.getfield 27, 3) := by decide +kernel
theorem d_Pla_sidesOfPoint_12 : decode b_Pla_sidesOfPoint 12 = .ok (.getfield 49, 3) := by decide +kernel
theorem d_Pla_sidesOfPoint_15 : decode b_Pla_sidesOfPoint 15 = .ok (.if_icmp .ge 30, 3) := by decide +kernel
theorem d_Pla_sidesOfPoint_18 : decode b_Pla_sidesOfPoint 18 = .ok (.aload_n 0, 1) := by decide +kernel
theorem d_Pla_sidesOfPoint_19 : decode b_Pla_sidesOfPoint 19 = .ok (.iload_n 1, 1) := by decide +kernel
theorem d_Pla_sidesOfPoint_20 : decode b_Pla_sidesOfPoint 20 = .ok (.iload_n 2, 1) := by decide +kernel
theorem d_Pla_sidesOfPoint_21 : decode b_Pla_sidesOfPoint 21 = .ok (.iload_n 3, 1) := by decide +kernel
theorem d_Pla_sidesOfPoint_22 : decode b_Pla_sidesOfPoint 22 = .ok (.iload 5, 2) := by decide +kernel
theorem d_Pla_sidesOfPoint_24 : decode b_Pla_sidesOfPoint 24 = .ok (.invokevirtual 145, 3) := by decide +kernel
theorem d_Pla_sidesOfPoint_27 : decode b_Pla_sidesOfPoint 27 = .ok (.ifCond .le 12, 3) := by decide +kernel
theorem d_Pla_sidesOfPoint_30 : decode b_Pla_sidesOfPoint 30 = .ok (.iload 4, 2) := by decide +kernel
theorem d_Pla_sidesOfPoint_32 : decode b_Pla_sidesOfPoint 32 = .ok (.iconst 1, 1) := by decide +kernel
theorem d_Pla_sidesOfPoint_33 : decode b_Pla_sidesOfPoint 33 = .ok (.iload 5, 2) := by decide +kernel
theorem d_Pla_sidesOfPoint_35 : decode b_Pla_sidesOfPoint 35 = .ok (.ishl, 1) := by decide +kernel
theorem d_Pla_sidesOfPoint_36 : decode b_Pla_sidesOfPoint 36 = .ok (.ior, 1) := by decide +kernel
theorem d_Pla_sidesOfPoint_37 : decode b_Pla_sidesOfPoint 37 = .ok (.istore 4, 2) := by decide +kernel
theorem d_Pla_sidesOfPoint_39 : decode b_Pla_sidesOfPoint 39 = .ok (.iinc 5 1, 3) := by decide +kernel
theorem d_Pla_sidesOfPoint_42 : decode b_Pla_sidesOfPoint 42 = .ok (.goto (-36), 3) := by decide +kernel
theorem d_Pla_sidesOfPoint_45 : decode b_Pla_sidesOfPoint 45 = .ok (.iload 4, 2) := by decide +kernel
theorem d_Pla_sidesOfPoint_47 : decode b_Pla_sidesOfPoint 47 = .ok (.ireturn, 1) := by decide +kernel
theorem d_Pla_streetsThrough_0 : decode b_Pla_streetsThrough 0 = .ok (.iconst 0, 1) := by decide +kernel
theorem d_Pla_streetsThrough_1 : decode b_Pla_streetsThrough 1 = .ok (.istore 4, 2) := by decide +kernel
theorem d_Pla_streetsThrough_3 : decode b_Pla_streetsThrough 3 = .ok (.iconst 0, 1) := by decide +kernel
theorem d_Pla_streetsThrough_4 : decode b_Pla_streetsThrough 4 = .ok (.istore 5, 2) := by decide +kernel
theorem d_Pla_streetsThrough_6 : decode b_Pla_streetsThrough 6 = .ok (.iload 5, 2) := by decide +kernel
theorem d_Pla_streetsThrough_8 : decode b_Pla_streetsThrough 8 = .ok (.aload_n 0, 1) := by decide +kernel
theorem d_Pla_streetsThrough_9 : decode b_Pla_streetsThrough 9 = .ok (.getfield 27, 3) := by decide +kernel
theorem d_Pla_streetsThrough_12 : decode b_Pla_streetsThrough 12 = .ok (.getfield 49, 3) := by decide +kernel
theorem d_Pla_streetsThrough_15 : decode b_Pla_streetsThrough 15 = .ok (.if_icmp .ge 30, 3) := by decide +kernel
theorem d_Pla_streetsThrough_18 : decode b_Pla_streetsThrough 18 = .ok (.aload_n 0, 1) := by decide +kernel
theorem d_Pla_streetsThrough_19 : decode b_Pla_streetsThrough 19 = .ok (.iload_n 1, 1) := by decide +kernel
theorem d_Pla_streetsThrough_20 : decode b_Pla_streetsThrough 20 = .ok (.iload_n 2, 1) := by decide +kernel
theorem d_Pla_streetsThrough_21 : decode b_Pla_streetsThrough 21 = .ok (.iload_n 3, 1) := by decide +kernel
theorem d_Pla_streetsThrough_22 : decode b_Pla_streetsThrough 22 = .ok (.iload 5, 2) := by decide +kernel
theorem d_Pla_streetsThrough_24 : decode b_Pla_streetsThrough 24 = .ok (.invokevirtual 145, 3) := by decide +kernel
theorem d_Pla_streetsThrough_27 : decode b_Pla_streetsThrough 27 = .ok (.ifCond .ne 12, 3) := by decide +kernel
theorem d_Pla_streetsThrough_30 : decode b_Pla_streetsThrough 30 = .ok (.iload 4, 2) := by decide +kernel
theorem d_Pla_streetsThrough_32 : decode b_Pla_streetsThrough 32 = .ok (.iconst 1, 1) := by decide +kernel
theorem d_Pla_streetsThrough_33 : decode b_Pla_streetsThrough 33 = .ok (.iload 5, 2) := by decide +kernel
theorem d_Pla_streetsThrough_35 : decode b_Pla_streetsThrough 35 = .ok (.ishl, 1) := by decide +kernel
theorem d_Pla_streetsThrough_36 : decode b_Pla_streetsThrough 36 = .ok (.ior, 1) := by decide +kernel
theorem d_Pla_streetsThrough_37 : decode b_Pla_streetsThrough 37 = .ok (.istore 4, 2) := by decide +kernel
theorem d_Pla_streetsThrough_39 : decode b_Pla_streetsThrough 39 = .ok (.iinc 5 1, 3) := by decide +kernel
theorem d_Pla_streetsThrough_42 : decode b_Pla_streetsThrough 42 = .ok (.goto (-36), 3) := by decide +kernel
theorem d_Pla_streetsThrough_45 : decode b_Pla_streetsThrough 45 = .ok (.iload 4, 2) := by decide +kernel
theorem d_Pla_streetsThrough_47 : decode b_Pla_streetsThrough 47 = .ok (.ireturn, 1) := by decide +kernel
theorem d_Pla_sidesFar_0 : decode b_Pla_sidesFar 0 = .ok (.iconst 0, 1) := by decide +kernel
theorem d_Pla_sidesFar_1 : decode b_Pla_sidesFar 1 = .ok (.istore 4, 2) := by decide +kernel
theorem d_Pla_sidesFar_3 : decode b_Pla_sidesFar 3 = .ok (.iconst 0, 1) := by decide +kernel
theorem d_Pla_sidesFar_4 : decode b_Pla_sidesFar 4 = .ok (.istore 5, 2) := by decide +kernel
theorem d_Pla_sidesFar_6 : decode b_Pla_sidesFar 6 = .ok (.iload 5, 2) := by decide +kernel
theorem d_Pla_sidesFar_8 : decode b_Pla_sidesFar 8 = .ok (.aload_n 0, 1) := by decide +kernel
theorem d_Pla_sidesFar_9 : decode b_Pla_sidesFar 9 = .ok (.getfield 27, 3) := by decide +kernel
theorem d_Pla_sidesFar_12 : decode b_Pla_sidesFar 12 = .ok (.getfield 49, 3) := by decide +kernel
theorem d_Pla_sidesFar_15 : decode b_Pla_sidesFar 15 = .ok (.if_icmp .ge 34, 3) := by decide +kernel
theorem d_Pla_sidesFar_18 : decode b_Pla_sidesFar 18 = .ok (.iload_n 3, 1) := by decide +kernel
theorem d_Pla_sidesFar_19 : decode b_Pla_sidesFar 19 = .ok (.aload_n 0, 1) := by decide +kernel
theorem d_Pla_sidesFar_20 : decode b_Pla_sidesFar 20 = .ok (.getfield 27, 3) := by decide +kernel
theorem d_Pla_sidesFar_23 : decode b_Pla_sidesFar 23 = .ok (.iload_n 1, 1) := by decide +kernel
theorem d_Pla_sidesFar_24 : decode b_Pla_sidesFar 24 = .ok (.iload_n 2, 1) := by decide +kernel
theorem d_Pla_sidesFar_25 : decode b_Pla_sidesFar 25 = .ok (.iload 5, 2) := by decide +kernel
theorem d_Pla_sidesFar_27 : decode b_Pla_sidesFar 27 = .ok (.invokevirtual 110, 3) := by decide +kernel
theorem d_Pla_sidesFar_30 : decode b_Pla_sidesFar 30 = .ok (.imul, 1) := by decide +kernel
theorem d_Pla_sidesFar_31 : decode b_Pla_sidesFar 31 = .ok (.ifCond .le 12, 3) := by decide +kernel
theorem d_Pla_sidesFar_34 : decode b_Pla_sidesFar 34 = .ok (.iload 4, 2) := by decide +kernel
theorem d_Pla_sidesFar_36 : decode b_Pla_sidesFar 36 = .ok (.iconst 1, 1) := by decide +kernel
theorem d_Pla_sidesFar_37 : decode b_Pla_sidesFar 37 = .ok (.iload 5, 2) := by decide +kernel
theorem d_Pla_sidesFar_39 : decode b_Pla_sidesFar 39 = .ok (.ishl, 1) := by decide +kernel
theorem d_Pla_sidesFar_40 : decode b_Pla_sidesFar 40 = .ok (.ior, 1) := by decide +kernel
theorem d_Pla_sidesFar_41 : decode b_Pla_sidesFar 41 = .ok (.istore 4, 2) := by decide +kernel
theorem d_Pla_sidesFar_43 : decode b_Pla_sidesFar 43 = .ok (.iinc 5 1, 3) := by decide +kernel
theorem d_Pla_sidesFar_46 : decode b_Pla_sidesFar 46 = .ok (.goto (-40), 3) := by decide +kernel
theorem d_Pla_sidesFar_49 : decode b_Pla_sidesFar 49 = .ok (.iload 4, 2) := by decide +kernel
theorem d_Pla_sidesFar_51 : decode b_Pla_sidesFar 51 = .ok (.ireturn, 1) := by decide +kernel
theorem d_Tow_init_0 : decode b_Tow_init 0 = .ok (.aload_n 0, 1) := by decide +kernel
theorem d_Tow_init_1 : decode b_Tow_init 1 = .ok (.invokespecial 3, 3) := by decide +kernel
theorem d_Tow_init_4 : decode b_Tow_init 4 = .ok (.aload_n 0, 1) := by decide +kernel
theorem d_Tow_init_5 : decode b_Tow_init 5 = .ok (.bipush 6, 2) := by decide +kernel
theorem d_Tow_init_7 : decode b_Tow_init 7 = .ok (.newarray .int, 2) := by decide +kernel
theorem d_Tow_init_9 : decode b_Tow_init 9 = .ok (.putfield 9, 3) := by decide +kernel
theorem d_Tow_init_12 : decode b_Tow_init 12 = .ok (.aload_n 0, 1) := by decide +kernel
theorem d_Tow_init_13 : decode b_Tow_init 13 = .ok (.bipush 6, 2) := by decide +kernel
theorem d_Tow_init_15 : decode b_Tow_init 15 = .ok (.newarray .int, 2) := by decide +kernel
theorem d_Tow_init_17 : decode b_Tow_init 17 = .ok (.putfield 15, 3) := by decide +kernel
theorem d_Tow_init_20 : decode b_Tow_init 20 = .ok (.aload_n 0, 1) := by decide +kernel
theorem d_Tow_init_21 : decode b_Tow_init 21 = .ok (.bipush 6, 2) := by decide +kernel
theorem d_Tow_init_23 : decode b_Tow_init 23 = .ok (.newarray .int, 2) := by decide +kernel
theorem d_Tow_init_25 : decode b_Tow_init 25 = .ok (.putfield 18, 3) := by decide +kernel
theorem d_Tow_init_28 : decode b_Tow_init 28 = .ok (.aload_n 0, 1) := by decide +kernel
theorem d_Tow_init_29 : decode b_Tow_init 29 = .ok (.bipush 6, 2) := by decide +kernel
theorem d_Tow_init_31 : decode b_Tow_init 31 = .ok (.newarray .int, 2) := by decide +kernel
theorem d_Tow_init_33 : decode b_Tow_init 33 = .ok (.putfield 21, 3) := by decide +kernel
theorem d_Tow_init_36 : decode b_Tow_init 36 = .ok (.aload_n 0, 1) := by decide +kernel
theorem d_Tow_init_37 : decode b_Tow_init 37 = .ok (.bipush 8, 2) := by decide +kernel
theorem d_Tow_init_39 : decode b_Tow_init 39 = .ok (.newarray .int, 2) := by decide +kernel
theorem d_Tow_init_41 : decode b_Tow_init 41 = .ok (.putfield 24, 3) := by decide +kernel
theorem d_Tow_init_44 : decode b_Tow_init 44 = .ok (.aload_n 0, 1) := by decide +kernel
theorem d_Tow_init_45 : decode b_Tow_init 45 = .ok (.bipush 8, 2) := by decide +kernel
theorem d_Tow_init_47 : decode b_Tow_init 47 = .ok (.newarray .int, 2) := by decide +kernel
theorem d_Tow_init_49 : decode b_Tow_init 49 = .ok (.putfield 27, 3) := by decide +kernel
theorem d_Tow_init_52 : decode b_Tow_init 52 = .ok (.return_, 1) := by decide +kernel
theorem d_Tow_hasStreet_0 : decode b_Tow_hasStreet 0 = .ok (.iload_n 1, 1) := by decide +kernel
theorem d_Tow_hasStreet_1 : decode b_Tow_hasStreet 1 = .ok (.ifCond .lt 15, 3) := by decide +kernel
theorem d_Tow_hasStreet_4 : decode b_Tow_hasStreet 4 = .ok (.iload_n 1, 1) := by decide +kernel
theorem d_Tow_hasStreet_5 : decode b_Tow_hasStreet 5 = .ok (.aload_n 0, 1) := by decide +kernel
theorem d_Tow_hasStreet_6 : decode b_Tow_hasStreet 6 = .ok (.getfield 30, 3) := by decide +kernel
theorem d_Tow_hasStreet_9 : decode b_Tow_hasStreet 9 = .ok (.if_icmp .ge 7, 3) := by decide +kernel
theorem d_Tow_hasStreet_12 : decode b_Tow_hasStreet 12 = .ok (.iconst 1, 1) := by decide +kernel
theorem d_Tow_hasStreet_13 : decode b_Tow_hasStreet 13 = .ok (.goto 4, 3) := by decide +kernel
theorem d_Tow_hasStreet_16 : decode b_Tow_hasStreet 16 = .ok (.iconst 0, 1) := by decide +kernel
theorem d_Tow_hasStreet_17 : decode b_Tow_hasStreet 17 = .ok (.ireturn, 1) := by decide +kernel
theorem d_Tow_hasPlot_0 : decode b_Tow_hasPlot 0 = .ok (.iload_n 1, 1) := by decide +kernel
theorem d_Tow_hasPlot_1 : decode b_Tow_hasPlot 1 = .ok (.ifCond .lt 15, 3) := by decide +kernel
theorem d_Tow_hasPlot_4 : decode b_Tow_hasPlot 4 = .ok (.iload_n 1, 1) := by decide +kernel
theorem d_Tow_hasPlot_5 : decode b_Tow_hasPlot 5 = .ok (.aload_n 0, 1) := by decide +kernel
theorem d_Tow_hasPlot_6 : decode b_Tow_hasPlot 6 = .ok (.getfield 34, 3) := by decide +kernel
theorem d_Tow_hasPlot_9 : decode b_Tow_hasPlot 9 = .ok (.if_icmp .ge 7, 3) := by decide +kernel
theorem d_Tow_hasPlot_12 : decode b_Tow_hasPlot 12 = .ok (.iconst 1, 1) := by decide +kernel
theorem d_Tow_hasPlot_13 : decode b_Tow_hasPlot 13 = .ok (.goto 4, 3) := by decide +kernel
theorem d_Tow_hasPlot_16 : decode b_Tow_hasPlot 16 = .ok (.iconst 0, 1) := by decide +kernel
theorem d_Tow_hasPlot_17 : decode b_Tow_hasPlot 17 = .ok (.ireturn, 1) := by decide +kernel
theorem d_Tow_hasDirection_0 : decode b_Tow_hasDirection 0 = .ok (.iconst 0, 1) := by decide +kernel
theorem d_Tow_hasDirection_1 : decode b_Tow_hasDirection 1 = .ok (.istore_n 3, 1) := by decide +kernel
theorem d_Tow_hasDirection_2 : decode b_Tow_hasDirection 2 = .ok (.iload_n 3, 1) := by decide +kernel
theorem d_Tow_hasDirection_3 : decode b_Tow_hasDirection 3 = .ok (.aload_n 0, 1) := by decide +kernel
theorem d_Tow_hasDirection_4 : decode b_Tow_hasDirection 4 = .ok (.getfield 30, 3) := by decide +kernel
theorem d_Tow_hasDirection_7 : decode b_Tow_hasDirection 7 = .ok (.if_icmp .ge 21, 3) := by decide +kernel
theorem d_Tow_hasDirection_10 : decode b_Tow_hasDirection 10 = .ok (.aload_n 0, 1) := by decide +kernel
theorem d_Tow_hasDirection_11 : decode b_Tow_hasDirection 11 = .ok (.iload_n 1, 1) := by decide +kernel
theorem d_Tow_hasDirection_12 : decode b_Tow_hasDirection 12 = .ok (.iload_n 2, 1) := by decide +kernel
theorem d_Tow_hasDirection_13 : decode b_Tow_hasDirection 13 = .ok (.iload_n 3, 1) := by decide +kernel
theorem d_Tow_hasDirection_14 : decode b_Tow_hasDirection 14 = .ok (.invokevirtual 37, 3) := by decide +kernel
theorem d_Tow_hasDirection_17 : decode b_Tow_hasDirection 17 = .ok (.ifCond .ne 5, 3) := by decide +kernel
theorem d_Tow_hasDirection_20 : decode b_Tow_hasDirection 20 = .ok (.iconst 1, 1) := by decide +kernel
theorem d_Tow_hasDirection_21 : decode b_Tow_hasDirection 21 = .ok (.ireturn, 1) := by decide +kernel
theorem d_Tow_hasDirection_22 : decode b_Tow_hasDirection 22 = .ok (.iinc 3 1, 3) := by decide +kernel
theorem d_Tow_hasDirection_25 : decode b_Tow_hasDirection 25 = .ok (.goto (-23), 3) := by decide +kernel
theorem d_Tow_hasDirection_28 : decode b_Tow_hasDirection 28 = .ok (.iconst 0, 1) := by decide +kernel
theorem d_Tow_hasDirection_29 : decode b_Tow_hasDirection 29 = .ok (.ireturn, 1) := by decide +kernel
theorem d_Tow_hasPlotOn_0 : decode b_Tow_hasPlotOn 0 = .ok (.iconst 0, 1) := by decide +kernel
theorem d_Tow_hasPlotOn_1 : decode b_Tow_hasPlotOn 1 = .ok (.istore 4, 2) := by decide +kernel
theorem d_Tow_hasPlotOn_3 : decode b_Tow_hasPlotOn 3 = .ok (.iload 4, 2) := by decide +kernel
theorem d_Tow_hasPlotOn_5 : decode b_Tow_hasPlotOn 5 = .ok (.aload_n 0, 1) := by decide +kernel
theorem d_Tow_hasPlotOn_6 : decode b_Tow_hasPlotOn 6 = .ok (.getfield 34, 3) := by decide +kernel
theorem d_Tow_hasPlotOn_9 : decode b_Tow_hasPlotOn 9 = .ok (.if_icmp .ge 34, 3) := by decide +kernel
theorem d_Tow_hasPlotOn_12 : decode b_Tow_hasPlotOn 12 = .ok (.iload_n 1, 1) := by decide +kernel
theorem d_Tow_hasPlotOn_13 : decode b_Tow_hasPlotOn 13 = .ok (.aload_n 0, 1) := by decide +kernel
theorem d_Tow_hasPlotOn_14 : decode b_Tow_hasPlotOn 14 = .ok (.getfield 24, 3) := by decide +kernel
theorem d_Tow_hasPlotOn_17 : decode b_Tow_hasPlotOn 17 = .ok (.iload 4, 2) := by decide +kernel
theorem d_Tow_hasPlotOn_19 : decode b_Tow_hasPlotOn 19 = .ok (.iaload, 1) := by decide +kernel
theorem d_Tow_hasPlotOn_20 : decode b_Tow_hasPlotOn 20 = .ok (.imul, 1) := by decide +kernel
theorem d_Tow_hasPlotOn_21 : decode b_Tow_hasPlotOn 21 = .ok (.iload_n 2, 1) := by decide +kernel
theorem d_Tow_hasPlotOn_22 : decode b_Tow_hasPlotOn 22 = .ok (.aload_n 0, 1) := by decide +kernel
theorem d_Tow_hasPlotOn_23 : decode b_Tow_hasPlotOn 23 = .ok (.getfield 27, 3) := by decide +kernel
theorem d_Tow_hasPlotOn_26 : decode b_Tow_hasPlotOn 26 = .ok (.iload 4, 2) := by decide +kernel
theorem d_Tow_hasPlotOn_28 : decode b_Tow_hasPlotOn 28 = .ok (.iaload, 1) := by decide +kernel
theorem d_Tow_hasPlotOn_29 : decode b_Tow_hasPlotOn 29 = .ok (.imul, 1) := by decide +kernel
theorem d_Tow_hasPlotOn_30 : decode b_Tow_hasPlotOn 30 = .ok (.iadd, 1) := by decide +kernel
theorem d_Tow_hasPlotOn_31 : decode b_Tow_hasPlotOn 31 = .ok (.iload_n 3, 1) := by decide +kernel
theorem d_Tow_hasPlotOn_32 : decode b_Tow_hasPlotOn 32 = .ok (.if_icmp .ne 5, 3) := by decide +kernel
theorem d_Tow_hasPlotOn_35 : decode b_Tow_hasPlotOn 35 = .ok (.iconst 1, 1) := by decide +kernel
theorem d_Tow_hasPlotOn_36 : decode b_Tow_hasPlotOn 36 = .ok (.ireturn, 1) := by decide +kernel
theorem d_Tow_hasPlotOn_37 : decode b_Tow_hasPlotOn 37 = .ok (.iinc 4 1, 3) := by decide +kernel
theorem d_Tow_hasPlotOn_40 : decode b_Tow_hasPlotOn 40 = .ok (.goto (-37), 3) := by decide +kernel
theorem d_Tow_hasPlotOn_43 : decode b_Tow_hasPlotOn 43 = .ok (.iconst 0, 1) := by decide +kernel
theorem d_Tow_hasPlotOn_44 : decode b_Tow_hasPlotOn 44 = .ok (.ireturn, 1) := by decide +kernel
theorem d_Tow_putStreet_0 : decode b_Tow_putStreet 0 = .ok (.iload_n 2, 1) := by decide +kernel
theorem d_Tow_putStreet_1 : decode b_Tow_putStreet 1 = .ok (.ifCond .ne 11, 3) := by decide +kernel
theorem d_Tow_putStreet_4 : decode b_Tow_putStreet 4 = .ok (.iload_n 3, 1) := by decide +kernel
theorem d_Tow_putStreet_5 : decode b_Tow_putStreet 5 = .ok (.ifCond .ne 7, 3) := by decide +kernel
theorem d_Tow_putStreet_8 : decode b_Tow_putStreet 8 = .ok (.iconst 1, 1) := by decide +kernel
theorem d_Tow_putStreet_9 : decode b_Tow_putStreet 9 = .ok (.goto 4, 3) := by decide +kernel
theorem d_Tow_putStreet_12 : decode b_Tow_putStreet 12 = .ok (.iconst 0, 1) := by decide +kernel
theorem d_Tow_putStreet_13 : decode b_Tow_putStreet 13 = .ok (.istore 5, 2) := by decide +kernel
theorem d_Tow_putStreet_15 : decode b_Tow_putStreet 15 = .ok (.iload 5, 2) := by decide +kernel
theorem d_Tow_putStreet_17 : decode b_Tow_putStreet 17 = .ok (.ifCond .ne 21, 3) := by decide +kernel
theorem d_Tow_putStreet_20 : decode b_Tow_putStreet 20 = .ok (.aload_n 0, 1) := by decide +kernel
theorem d_Tow_putStreet_21 : decode b_Tow_putStreet 21 = .ok (.iload_n 2, 1) := by decide +kernel
theorem d_Tow_putStreet_22 : decode b_Tow_putStreet 22 = .ok (.iload_n 3, 1) := by decide +kernel
theorem d_Tow_putStreet_23 : decode b_Tow_putStreet 23 = .ok (.invokevirtual 41, 3) := by decide +kernel
theorem d_Tow_putStreet_26 : decode b_Tow_putStreet 26 = .ok (.ifCond .ne 12, 3) := by decide +kernel
theorem d_Tow_putStreet_29 : decode b_Tow_putStreet 29 = .ok (.aload_n 0, 1) := by decide +kernel
theorem d_Tow_putStreet_30 : decode b_Tow_putStreet 30 = .ok (.getfield 30, 3) := by decide +kernel
theorem d_Tow_putStreet_33 : decode b_Tow_putStreet 33 = .ok (.bipush 6, 2) := by decide +kernel
theorem d_Tow_putStreet_35 : decode b_Tow_putStreet 35 = .ok (.if_icmp .lt 5, 3) := by decide +kernel
theorem d_Tow_putStreet_38 : decode b_Tow_putStreet 38 = .ok (.iconst 0, 1) := by decide +kernel
theorem d_Tow_putStreet_39 : decode b_Tow_putStreet 39 = .ok (.ireturn, 1) := by decide +kernel
theorem d_Tow_putStreet_40 : decode b_Tow_putStreet 40 = .ok (.aload_n 0, 1) := by decide +kernel
theorem d_Tow_putStreet_41 : decode b_Tow_putStreet 41 = .ok (.getfield 9, 3) := by decide +kernel
theorem d_Tow_putStreet_44 : decode b_Tow_putStreet 44 = .ok (.aload_n 0, 1) := by decide +kernel
theorem d_Tow_putStreet_45 : decode b_Tow_putStreet 45 = .ok (.getfield 30, 3) := by decide +kernel
theorem d_Tow_putStreet_48 : decode b_Tow_putStreet 48 = .ok (.iload_n 1, 1) := by decide +kernel
theorem d_Tow_putStreet_49 : decode b_Tow_putStreet 49 = .ok (.iastore, 1) := by decide +kernel
theorem d_Tow_putStreet_50 : decode b_Tow_putStreet 50 = .ok (.aload_n 0, 1) := by decide +kernel
theorem d_Tow_putStreet_51 : decode b_Tow_putStreet 51 = .ok (.getfield 15, 3) := by decide +kernel
theorem d_Tow_putStreet_54 : decode b_Tow_putStreet 54 = .ok (.aload_n 0, 1) := by decide +kernel
theorem d_Tow_putStreet_55 : decode b_Tow_putStreet 55 = .ok (.getfield 30, 3) := by decide +kernel
theorem d_Tow_putStreet_58 : decode b_Tow_putStreet 58 = .ok (.iload_n 2, 1) := by decide +kernel
theorem d_Tow_putStreet_59 : decode b_Tow_putStreet 59 = .ok (.iastore, 1) := by decide +kernel
theorem d_Tow_putStreet_60 : decode b_Tow_putStreet 60 = .ok (.aload_n 0, 1) := by decide +kernel
theorem d_Tow_putStreet_61 : decode b_Tow_putStreet 61 = .ok (.getfield 18, 3) := by decide +kernel
theorem d_Tow_putStreet_64 : decode b_Tow_putStreet 64 = .ok (.aload_n 0, 1) := by decide +kernel
theorem d_Tow_putStreet_65 : decode b_Tow_putStreet 65 = .ok (.getfield 30, 3) := by decide +kernel
theorem d_Tow_putStreet_68 : decode b_Tow_putStreet 68 = .ok (.iload_n 3, 1) := by decide +kernel
theorem d_Tow_putStreet_69 : decode b_Tow_putStreet 69 = .ok (.iastore, 1) := by decide +kernel
theorem d_Tow_putStreet_70 : decode b_Tow_putStreet 70 = .ok (.aload_n 0, 1) := by decide +kernel
theorem d_Tow_putStreet_71 : decode b_Tow_putStreet 71 = .ok (.getfield 21, 3) := by decide +kernel
theorem d_Tow_putStreet_74 : decode b_Tow_putStreet 74 = .ok (.aload_n 0, 1) := by decide +kernel
theorem d_Tow_putStreet_75 : decode b_Tow_putStreet 75 = .ok (.getfield 30, 3) := by decide +kernel
theorem d_Tow_putStreet_78 : decode b_Tow_putStreet 78 = .ok (.iload 4, 2) := by decide +kernel
theorem d_Tow_putStreet_80 : decode b_Tow_putStreet 80 = .ok (.iastore, 1) := by decide +kernel
theorem d_Tow_putStreet_81 : decode b_Tow_putStreet 81 = .ok (.aload_n 0, 1) := by decide +kernel
theorem d_Tow_putStreet_82 : decode b_Tow_putStreet 82 = .ok (.dup, 1) := by decide +kernel
theorem d_Tow_putStreet_83 : decode b_Tow_putStreet 83 = .ok (.getfield 30, 3) := by decide +kernel
theorem d_Tow_putStreet_86 : decode b_Tow_putStreet 86 = .ok (.iconst 1, 1) := by decide +kernel
theorem d_Tow_putStreet_87 : decode b_Tow_putStreet 87 = .ok (.iadd, 1) := by decide +kernel
theorem d_Tow_putStreet_88 : decode b_Tow_putStreet 88 = .ok (.putfield 30, 3) := by decide +kernel
theorem d_Tow_putStreet_91 : decode b_Tow_putStreet 91 = .ok (.iconst 1, 1) := by decide +kernel
theorem d_Tow_putStreet_92 : decode b_Tow_putStreet 92 = .ok (.ireturn, 1) := by decide +kernel
theorem d_Tow_putPlot_0 : decode b_Tow_putPlot 0 = .ok (.iload_n 1, 1) := by decide +kernel
theorem d_Tow_putPlot_1 : decode b_Tow_putPlot 1 = .ok (.invokestatic 45, 3) := by decide +kernel
theorem d_Tow_putPlot_4 : decode b_Tow_putPlot 4 = .ok (.bipush 20, 2) := by decide +kernel
theorem d_Tow_putPlot_6 : decode b_Tow_putPlot 6 = .ok (.if_icmp .gt 12, 3) := by decide +kernel
theorem d_Tow_putPlot_9 : decode b_Tow_putPlot 9 = .ok (.iload_n 2, 1) := by decide +kernel
theorem d_Tow_putPlot_10 : decode b_Tow_putPlot 10 = .ok (.invokestatic 45, 3) := by decide +kernel
theorem d_Tow_putPlot_13 : decode b_Tow_putPlot 13 = .ok (.bipush 20, 2) := by decide +kernel
theorem d_Tow_putPlot_15 : decode b_Tow_putPlot 15 = .ok (.if_icmp .le 7, 3) := by decide +kernel
theorem d_Tow_putPlot_18 : decode b_Tow_putPlot 18 = .ok (.iconst 1, 1) := by decide +kernel
theorem d_Tow_putPlot_19 : decode b_Tow_putPlot 19 = .ok (.goto 4, 3) := by decide +kernel
theorem d_Tow_putPlot_22 : decode b_Tow_putPlot 22 = .ok (.iconst 0, 1) := by decide +kernel
theorem d_Tow_putPlot_23 : decode b_Tow_putPlot 23 = .ok (.istore_n 3, 1) := by decide +kernel
theorem d_Tow_putPlot_24 : decode b_Tow_putPlot 24 = .ok (.iload_n 3, 1) := by decide +kernel
theorem d_Tow_putPlot_25 : decode b_Tow_putPlot 25 = .ok (.ifCond .ne 12, 3) := by decide +kernel
theorem d_Tow_putPlot_28 : decode b_Tow_putPlot 28 = .ok (.aload_n 0, 1) := by decide +kernel
theorem d_Tow_putPlot_29 : decode b_Tow_putPlot 29 = .ok (.getfield 34, 3) := by decide +kernel
theorem d_Tow_putPlot_32 : decode b_Tow_putPlot 32 = .ok (.bipush 8, 2) := by decide +kernel
theorem d_Tow_putPlot_34 : decode b_Tow_putPlot 34 = .ok (.if_icmp .lt 5, 3) := by decide +kernel
theorem d_Tow_putPlot_37 : decode b_Tow_putPlot 37 = .ok (.iconst 0, 1) := by decide +kernel
theorem d_Tow_putPlot_38 : decode b_Tow_putPlot 38 = .ok (.ireturn, 1) := by decide +kernel
theorem d_Tow_putPlot_39 : decode b_Tow_putPlot 39 = .ok (.aload_n 0, 1) := by decide +kernel
theorem d_Tow_putPlot_40 : decode b_Tow_putPlot 40 = .ok (.getfield 24, 3) := by decide +kernel
theorem d_Tow_putPlot_43 : decode b_Tow_putPlot 43 = .ok (.aload_n 0, 1) := by decide +kernel
theorem d_Tow_putPlot_44 : decode b_Tow_putPlot 44 = .ok (.getfield 34, 3) := by decide +kernel
theorem d_Tow_putPlot_47 : decode b_Tow_putPlot 47 = .ok (.iload_n 1, 1) := by decide +kernel
theorem d_Tow_putPlot_48 : decode b_Tow_putPlot 48 = .ok (.iastore, 1) := by decide +kernel
theorem d_Tow_putPlot_49 : decode b_Tow_putPlot 49 = .ok (.aload_n 0, 1) := by decide +kernel
theorem d_Tow_putPlot_50 : decode b_Tow_putPlot 50 = .ok (.getfield 27, 3) := by decide +kernel
theorem d_Tow_putPlot_53 : decode b_Tow_putPlot 53 = .ok (.aload_n 0, 1) := by decide +kernel
theorem d_Tow_putPlot_54 : decode b_Tow_putPlot 54 = .ok (.getfield 34, 3) := by decide +kernel
theorem d_Tow_putPlot_57 : decode b_Tow_putPlot 57 = .ok (.iload_n 2, 1) := by decide +kernel
theorem d_Tow_putPlot_58 : decode b_Tow_putPlot 58 = .ok (.iastore, 1) := by decide +kernel
theorem d_Tow_putPlot_59 : decode b_Tow_putPlot 59 = .ok (.aload_n 0, 1) := by decide +kernel
theorem d_Tow_putPlot_60 : decode b_Tow_putPlot 60 = .ok (.dup, 1) := by decide +kernel
theorem d_Tow_putPlot_61 : decode b_Tow_putPlot 61 = .ok (.getfield 34, 3) := by decide +kernel
theorem d_Tow_putPlot_64 : decode b_Tow_putPlot 64 = .ok (.iconst 1, 1) := by decide +kernel
theorem d_Tow_putPlot_65 : decode b_Tow_putPlot 65 = .ok (.iadd, 1) := by decide +kernel
theorem d_Tow_putPlot_66 : decode b_Tow_putPlot 66 = .ok (.putfield 34, 3) := by decide +kernel
theorem d_Tow_putPlot_69 : decode b_Tow_putPlot 69 = .ok (.iconst 1, 1) := by decide +kernel
theorem d_Tow_putPlot_70 : decode b_Tow_putPlot 70 = .ok (.ireturn, 1) := by decide +kernel
theorem d_Tow_copyFrom_0 : decode b_Tow_copyFrom 0 = .ok (.aload_n 1, 1) := by decide +kernel
theorem d_Tow_copyFrom_1 : decode b_Tow_copyFrom 1 = .ok (.getfield 9, 3) := by decide +kernel
theorem d_Tow_copyFrom_4 : decode b_Tow_copyFrom 4 = .ok (.iconst 0, 1) := by decide +kernel
theorem d_Tow_copyFrom_5 : decode b_Tow_copyFrom 5 = .ok (.aload_n 0, 1) := by decide +kernel
theorem d_Tow_copyFrom_6 : decode b_Tow_copyFrom 6 = .ok (.getfield 9, 3) := by decide +kernel
theorem d_Tow_copyFrom_9 : decode b_Tow_copyFrom 9 = .ok (.iconst 0, 1) := by decide +kernel
theorem d_Tow_copyFrom_10 : decode b_Tow_copyFrom 10 = .ok (.bipush 6, 2) := by decide +kernel
theorem d_Tow_copyFrom_12 : decode b_Tow_copyFrom 12 = .ok (.invokestatic 51, 3) := by decide +kernel
theorem d_Tow_copyFrom_15 : decode b_Tow_copyFrom 15 = .ok (.aload_n 1, 1) := by decide +kernel
theorem d_Tow_copyFrom_16 : decode b_Tow_copyFrom 16 = .ok (.getfield 15, 3) := by decide +kernel
theorem d_Tow_copyFrom_19 : decode b_Tow_copyFrom 19 = .ok (.iconst 0, 1) := by decide +kernel
theorem d_Tow_copyFrom_20 : decode b_Tow_copyFrom 20 = .ok (.aload_n 0, 1) := by decide +kernel
theorem d_Tow_copyFrom_21 : decode b_Tow_copyFrom 21 = .ok (.getfield 15, 3) := by decide +kernel
theorem d_Tow_copyFrom_24 : decode b_Tow_copyFrom 24 = .ok (.iconst 0, 1) := by decide +kernel
theorem d_Tow_copyFrom_25 : decode b_Tow_copyFrom 25 = .ok (.bipush 6, 2) := by decide +kernel
theorem d_Tow_copyFrom_27 : decode b_Tow_copyFrom 27 = .ok (.invokestatic 51, 3) := by decide +kernel
theorem d_Tow_copyFrom_30 : decode b_Tow_copyFrom 30 = .ok (.aload_n 1, 1) := by decide +kernel
theorem d_Tow_copyFrom_31 : decode b_Tow_copyFrom 31 = .ok (.getfield 18, 3) := by decide +kernel
theorem d_Tow_copyFrom_34 : decode b_Tow_copyFrom 34 = .ok (.iconst 0, 1) := by decide +kernel
theorem d_Tow_copyFrom_35 : decode b_Tow_copyFrom 35 = .ok (.aload_n 0, 1) := by decide +kernel
theorem d_Tow_copyFrom_36 : decode b_Tow_copyFrom 36 = .ok (.getfield 18, 3) := by decide +kernel
theorem d_Tow_copyFrom_39 : decode b_Tow_copyFrom 39 = .ok (.iconst 0, 1) := by decide +kernel
theorem d_Tow_copyFrom_40 : decode b_Tow_copyFrom 40 = .ok (.bipush 6, 2) := by decide +kernel
theorem d_Tow_copyFrom_42 : decode b_Tow_copyFrom 42 = .ok (.invokestatic 51, 3) := by decide +kernel
theorem d_Tow_copyFrom_45 : decode b_Tow_copyFrom 45 = .ok (.aload_n 1, 1) := by decide +kernel
theorem d_Tow_copyFrom_46 : decode b_Tow_copyFrom 46 = .ok (.getfield 21, 3) := by decide +kernel
theorem d_Tow_copyFrom_49 : decode b_Tow_copyFrom 49 = .ok (.iconst 0, 1) := by decide +kernel
theorem d_Tow_copyFrom_50 : decode b_Tow_copyFrom 50 = .ok (.aload_n 0, 1) := by decide +kernel
theorem d_Tow_copyFrom_51 : decode b_Tow_copyFrom 51 = .ok (.getfield 21, 3) := by decide +kernel
theorem d_Tow_copyFrom_54 : decode b_Tow_copyFrom 54 = .ok (.iconst 0, 1) := by decide +kernel
theorem d_Tow_copyFrom_55 : decode b_Tow_copyFrom 55 = .ok (.bipush 6, 2) := by decide +kernel
theorem d_Tow_copyFrom_57 : decode b_Tow_copyFrom 57 = .ok (.invokestatic 51, 3) := by decide +kernel
theorem d_Tow_copyFrom_60 : decode b_Tow_copyFrom 60 = .ok (.aload_n 0, 1) := by decide +kernel
theorem d_Tow_copyFrom_61 : decode b_Tow_copyFrom 61 = .ok (.aload_n 1, 1) := by decide +kernel
theorem d_Tow_copyFrom_62 : decode b_Tow_copyFrom 62 = .ok (.getfield 30, 3) := by decide +kernel
theorem d_Tow_copyFrom_65 : decode b_Tow_copyFrom 65 = .ok (.putfield 30, 3) := by decide +kernel
theorem d_Tow_copyFrom_68 : decode b_Tow_copyFrom 68 = .ok (.aload_n 1, 1) := by decide +kernel
theorem d_Tow_copyFrom_69 : decode b_Tow_copyFrom 69 = .ok (.getfield 24, 3) := by decide +kernel
theorem d_Tow_copyFrom_72 : decode b_Tow_copyFrom 72 = .ok (.iconst 0, 1) := by decide +kernel
theorem d_Tow_copyFrom_73 : decode b_Tow_copyFrom 73 = .ok (.aload_n 0, 1) := by decide +kernel
theorem d_Tow_copyFrom_74 : decode b_Tow_copyFrom 74 = .ok (.getfield 24, 3) := by decide +kernel
theorem d_Tow_copyFrom_77 : decode b_Tow_copyFrom 77 = .ok (.iconst 0, 1) := by decide +kernel
theorem d_Tow_copyFrom_78 : decode b_Tow_copyFrom 78 = .ok (.bipush 8, 2) := by decide +kernel
theorem d_Tow_copyFrom_80 : decode b_Tow_copyFrom 80 = .ok (.invokestatic 51, 3) := by decide +kernel
theorem d_Tow_copyFrom_83 : decode b_Tow_copyFrom 83 = .ok (.aload_n 1, 1) := by decide +kernel
theorem d_Tow_copyFrom_84 : decode b_Tow_copyFrom 84 = .ok (.getfield 27, 3) := by decide +kernel
theorem d_Tow_copyFrom_87 : decode b_Tow_copyFrom 87 = .ok (.iconst 0, 1) := by decide +kernel
theorem d_Tow_copyFrom_88 : decode b_Tow_copyFrom 88 = .ok (.aload_n 0, 1) := by decide +kernel
theorem d_Tow_copyFrom_89 : decode b_Tow_copyFrom 89 = .ok (.getfield 27, 3) := by decide +kernel
theorem d_Tow_copyFrom_92 : decode b_Tow_copyFrom 92 = .ok (.iconst 0, 1) := by decide +kernel
theorem d_Tow_copyFrom_93 : decode b_Tow_copyFrom 93 = .ok (.bipush 8, 2) := by decide +kernel
theorem d_Tow_copyFrom_95 : decode b_Tow_copyFrom 95 = .ok (.invokestatic 51, 3) := by decide +kernel
theorem d_Tow_copyFrom_98 : decode b_Tow_copyFrom 98 = .ok (.aload_n 0, 1) := by decide +kernel
theorem d_Tow_copyFrom_99 : decode b_Tow_copyFrom 99 = .ok (.aload_n 1, 1) := by decide +kernel
theorem d_Tow_copyFrom_100 : decode b_Tow_copyFrom 100 = .ok (.getfield 34, 3) := by decide +kernel
theorem d_Tow_copyFrom_103 : decode b_Tow_copyFrom 103 = .ok (.putfield 34, 3) := by decide +kernel
theorem d_Tow_copyFrom_106 : decode b_Tow_copyFrom 106 = .ok (.return_, 1) := by decide +kernel
theorem d_Tow_turn_0 : decode b_Tow_turn 0 = .ok (.iload_n 1, 1) := by decide +kernel
theorem d_Tow_turn_1 : decode b_Tow_turn 1 = .ok (.aload_n 0, 1) := by decide +kernel
theorem d_Tow_turn_2 : decode b_Tow_turn 2 = .ok (.getfield 18, 3) := by decide +kernel
theorem d_Tow_turn_5 : decode b_Tow_turn 5 = .ok (.iload_n 3, 1) := by decide +kernel
theorem d_Tow_turn_6 : decode b_Tow_turn 6 = .ok (.iaload, 1) := by decide +kernel
theorem d_Tow_turn_7 : decode b_Tow_turn 7 = .ok (.imul, 1) := by decide +kernel
theorem d_Tow_turn_8 : decode b_Tow_turn 8 = .ok (.iload_n 2, 1) := by decide +kernel
theorem d_Tow_turn_9 : decode b_Tow_turn 9 = .ok (.aload_n 0, 1) := by decide +kernel
theorem d_Tow_turn_10 : decode b_Tow_turn 10 = .ok (.getfield 15, 3) := by decide +kernel
theorem d_Tow_turn_13 : decode b_Tow_turn 13 = .ok (.iload_n 3, 1) := by decide +kernel
theorem d_Tow_turn_14 : decode b_Tow_turn 14 = .ok (.iaload, 1) := by decide +kernel
theorem d_Tow_turn_15 : decode b_Tow_turn 15 = .ok (.imul, 1) := by decide +kernel
theorem d_Tow_turn_16 : decode b_Tow_turn 16 = .ok (.isub, 1) := by decide +kernel
theorem d_Tow_turn_17 : decode b_Tow_turn 17 = .ok (.ireturn, 1) := by decide +kernel
theorem d_Tow_crossingBelow_0 : decode b_Tow_crossingBelow 0 = .ok (.aload_n 0, 1) := by decide +kernel
theorem d_Tow_crossingBelow_1 : decode b_Tow_crossingBelow 1 = .ok (.aload_n 0, 1) := by decide +kernel
theorem d_Tow_crossingBelow_2 : decode b_Tow_crossingBelow 2 = .ok (.getfield 15, 3) := by decide +kernel
theorem d_Tow_crossingBelow_5 : decode b_Tow_crossingBelow 5 = .ok (.iload_n 1, 1) := by decide +kernel
theorem d_Tow_crossingBelow_6 : decode b_Tow_crossingBelow 6 = .ok (.iaload, 1) := by decide +kernel
theorem d_Tow_crossingBelow_7 : decode b_Tow_crossingBelow 7 = .ok (.aload_n 0, 1) := by decide +kernel
theorem d_Tow_crossingBelow_8 : decode b_Tow_crossingBelow 8 = .ok (.getfield 18, 3) := by decide +kernel
theorem d_Tow_crossingBelow_11 : decode b_Tow_crossingBelow 11 = .ok (.iload_n 1, 1) := by decide +kernel
theorem d_Tow_crossingBelow_12 : decode b_Tow_crossingBelow 12 = .ok (.iaload, 1) := by decide +kernel
theorem d_Tow_crossingBelow_13 : decode b_Tow_crossingBelow 13 = .ok (.iload_n 2, 1) := by decide +kernel
theorem d_Tow_crossingBelow_14 : decode b_Tow_crossingBelow 14 = .ok (.invokevirtual 37, 3) := by decide +kernel
theorem d_Tow_crossingBelow_17 : decode b_Tow_crossingBelow 17 = .ok (.invokestatic 45, 3) := by decide +kernel
theorem d_Tow_crossingBelow_20 : decode b_Tow_crossingBelow 20 = .ok (.ireturn, 1) := by decide +kernel
theorem d_Tow_crossingX_0 : decode b_Tow_crossingX 0 = .ok (.aload_n 0, 1) := by decide +kernel
theorem d_Tow_crossingX_1 : decode b_Tow_crossingX 1 = .ok (.getfield 21, 3) := by decide +kernel
theorem d_Tow_crossingX_4 : decode b_Tow_crossingX 4 = .ok (.iload_n 1, 1) := by decide +kernel
theorem d_Tow_crossingX_5 : decode b_Tow_crossingX 5 = .ok (.iaload, 1) := by decide +kernel
theorem d_Tow_crossingX_6 : decode b_Tow_crossingX 6 = .ok (.aload_n 0, 1) := by decide +kernel
theorem d_Tow_crossingX_7 : decode b_Tow_crossingX 7 = .ok (.getfield 18, 3) := by decide +kernel
theorem d_Tow_crossingX_10 : decode b_Tow_crossingX 10 = .ok (.iload_n 2, 1) := by decide +kernel
theorem d_Tow_crossingX_11 : decode b_Tow_crossingX 11 = .ok (.iaload, 1) := by decide +kernel
theorem d_Tow_crossingX_12 : decode b_Tow_crossingX 12 = .ok (.imul, 1) := by decide +kernel
theorem d_Tow_crossingX_13 : decode b_Tow_crossingX 13 = .ok (.aload_n 0, 1) := by decide +kernel
theorem d_Tow_crossingX_14 : decode b_Tow_crossingX 14 = .ok (.getfield 18, 3) := by decide +kernel
theorem d_Tow_crossingX_17 : decode b_Tow_crossingX 17 = .ok (.iload_n 1, 1) := by decide +kernel
theorem d_Tow_crossingX_18 : decode b_Tow_crossingX 18 = .ok (.iaload, 1) := by decide +kernel
theorem d_Tow_crossingX_19 : decode b_Tow_crossingX 19 = .ok (.aload_n 0, 1) := by decide +kernel
theorem d_Tow_crossingX_20 : decode b_Tow_crossingX 20 = .ok (.getfield 21, 3) := by decide +kernel
theorem d_Tow_crossingX_23 : decode b_Tow_crossingX 23 = .ok (.iload_n 2, 1) := by decide +kernel
theorem d_Tow_crossingX_24 : decode b_Tow_crossingX 24 = .ok (.iaload, 1) := by decide +kernel
theorem d_Tow_crossingX_25 : decode b_Tow_crossingX 25 = .ok (.imul, 1) := by decide +kernel
theorem d_Tow_crossingX_26 : decode b_Tow_crossingX 26 = .ok (.isub, 1) := by decide +kernel
theorem d_Tow_crossingX_27 : decode b_Tow_crossingX 27 = .ok (.istore_n 3, 1) := by decide +kernel
theorem d_Tow_crossingX_28 : decode b_Tow_crossingX 28 = .ok (.aload_n 0, 1) := by decide +kernel
theorem d_Tow_crossingX_29 : decode b_Tow_crossingX 29 = .ok (.aload_n 0, 1) := by decide +kernel
theorem d_Tow_crossingX_30 : decode b_Tow_crossingX 30 = .ok (.getfield 15, 3) := by decide +kernel
theorem d_Tow_crossingX_33 : decode b_Tow_crossingX 33 = .ok (.iload_n 1, 1) := by decide +kernel
theorem d_Tow_crossingX_34 : decode b_Tow_crossingX 34 = .ok (.iaload, 1) := by decide +kernel
theorem d_Tow_crossingX_35 : decode b_Tow_crossingX 35 = .ok (.aload_n 0, 1) := by decide +kernel
theorem d_Tow_crossingX_36 : decode b_Tow_crossingX 36 = .ok (.getfield 18, 3) := by decide +kernel
theorem d_Tow_crossingX_39 : decode b_Tow_crossingX 39 = .ok (.iload_n 1, 1) := by decide +kernel
theorem d_Tow_crossingX_40 : decode b_Tow_crossingX 40 = .ok (.iaload, 1) := by decide +kernel
theorem d_Tow_crossingX_41 : decode b_Tow_crossingX 41 = .ok (.iload_n 2, 1) := by decide +kernel
theorem d_Tow_crossingX_42 : decode b_Tow_crossingX 42 = .ok (.invokevirtual 37, 3) := by decide +kernel
theorem d_Tow_crossingX_45 : decode b_Tow_crossingX 45 = .ok (.ifCond .ge 8, 3) := by decide +kernel
theorem d_Tow_crossingX_48 : decode b_Tow_crossingX 48 = .ok (.iload_n 3, 1) := by decide +kernel
theorem d_Tow_crossingX_49 : decode b_Tow_crossingX 49 = .ok (.ineg, 1) := by decide +kernel
theorem d_Tow_crossingX_50 : decode b_Tow_crossingX 50 = .ok (.goto 4, 3) := by decide +kernel
theorem d_Tow_crossingX_53 : decode b_Tow_crossingX 53 = .ok (.iload_n 3, 1) := by decide +kernel
theorem d_Tow_crossingX_54 : decode b_Tow_crossingX 54 = .ok (.ireturn, 1) := by decide +kernel
theorem d_Tow_crossingY_0 : decode b_Tow_crossingY 0 = .ok (.aload_n 0, 1) := by decide +kernel
theorem d_Tow_crossingY_1 : decode b_Tow_crossingY 1 = .ok (.getfield 15, 3) := by decide +kernel
theorem d_Tow_crossingY_4 : decode b_Tow_crossingY 4 = .ok (.iload_n 1, 1) := by decide +kernel
theorem d_Tow_crossingY_5 : decode b_Tow_crossingY 5 = .ok (.iaload, 1) := by decide +kernel
theorem d_Tow_crossingY_6 : decode b_Tow_crossingY 6 = .ok (.aload_n 0, 1) := by decide +kernel
theorem d_Tow_crossingY_7 : decode b_Tow_crossingY 7 = .ok (.getfield 21, 3) := by decide +kernel
theorem d_Tow_crossingY_10 : decode b_Tow_crossingY 10 = .ok (.iload_n 2, 1) := by decide +kernel
theorem d_Tow_crossingY_11 : decode b_Tow_crossingY 11 = .ok (.iaload, 1) := by decide +kernel
theorem d_Tow_crossingY_12 : decode b_Tow_crossingY 12 = .ok (.imul, 1) := by decide +kernel
theorem d_Tow_crossingY_13 : decode b_Tow_crossingY 13 = .ok (.aload_n 0, 1) := by decide +kernel
theorem d_Tow_crossingY_14 : decode b_Tow_crossingY 14 = .ok (.getfield 21, 3) := by decide +kernel
theorem d_Tow_crossingY_17 : decode b_Tow_crossingY 17 = .ok (.iload_n 1, 1) := by decide +kernel
theorem d_Tow_crossingY_18 : decode b_Tow_crossingY 18 = .ok (.iaload, 1) := by decide +kernel
theorem d_Tow_crossingY_19 : decode b_Tow_crossingY 19 = .ok (.aload_n 0, 1) := by decide +kernel
theorem d_Tow_crossingY_20 : decode b_Tow_crossingY 20 = .ok (.getfield 15, 3) := by decide +kernel
theorem d_Tow_crossingY_23 : decode b_Tow_crossingY 23 = .ok (.iload_n 2, 1) := by decide +kernel
theorem d_Tow_crossingY_24 : decode b_Tow_crossingY 24 = .ok (.iaload, 1) := by decide +kernel
theorem d_Tow_crossingY_25 : decode b_Tow_crossingY 25 = .ok (.imul, 1) := by decide +kernel
theorem d_Tow_crossingY_26 : decode b_Tow_crossingY 26 = .ok (.isub, 1) := by decide +kernel
theorem d_Tow_crossingY_27 : decode b_Tow_crossingY 27 = .ok (.istore_n 3, 1) := by decide +kernel
theorem d_Tow_crossingY_28 : decode b_Tow_crossingY 28 = .ok (.aload_n 0, 1) := by decide +kernel
theorem d_Tow_crossingY_29 : decode b_Tow_crossingY 29 = .ok (.aload_n 0, 1) := by decide +kernel
theorem d_Tow_crossingY_30 : decode b_Tow_crossingY 30 = .ok (.getfield 15, 3) := by decide +kernel
theorem d_Tow_crossingY_33 : decode b_Tow_crossingY 33 = .ok (.iload_n 1, 1) := by decide +kernel
theorem d_Tow_crossingY_34 : decode b_Tow_crossingY 34 = .ok (.iaload, 1) := by decide +kernel
theorem d_Tow_crossingY_35 : decode b_Tow_crossingY 35 = .ok (.aload_n 0, 1) := by decide +kernel
theorem d_Tow_crossingY_36 : decode b_Tow_crossingY 36 = .ok (.getfield 18, 3) := by decide +kernel
theorem d_Tow_crossingY_39 : decode b_Tow_crossingY 39 = .ok (.iload_n 1, 1) := by decide +kernel
theorem d_Tow_crossingY_40 : decode b_Tow_crossingY 40 = .ok (.iaload, 1) := by decide +kernel
theorem d_Tow_crossingY_41 : decode b_Tow_crossingY 41 = .ok (.iload_n 2, 1) := by decide +kernel
theorem d_Tow_crossingY_42 : decode b_Tow_crossingY 42 = .ok (.invokevirtual 37, 3) := by decide +kernel
theorem d_Tow_crossingY_45 : decode b_Tow_crossingY 45 = .ok (.ifCond .ge 8, 3) := by decide +kernel
theorem d_Tow_crossingY_48 : decode b_Tow_crossingY 48 = .ok (.iload_n 3, 1) := by decide +kernel
theorem d_Tow_crossingY_49 : decode b_Tow_crossingY 49 = .ok (.ineg, 1) := by decide +kernel
theorem d_Tow_crossingY_50 : decode b_Tow_crossingY 50 = .ok (.goto 4, 3) := by decide +kernel
theorem d_Tow_crossingY_53 : decode b_Tow_crossingY 53 = .ok (.iload_n 3, 1) := by decide +kernel
theorem d_Tow_crossingY_54 : decode b_Tow_crossingY 54 = .ok (.ireturn, 1) := by decide +kernel
theorem d_All_init_0 : decode b_All_init 0 = .ok (.aload_n 0, 1) := by decide +kernel
theorem d_All_init_1 : decode b_All_init 1 = .ok (.invokespecial 1, 3) := by decide +kernel
theorem d_All_init_4 : decode b_All_init 4 = .ok (.aload_n 0, 1) := by decide +kernel
theorem d_All_init_5 : decode b_All_init 5 = .ok (.new 7, 3) := by decide +kernel
theorem d_All_init_8 : decode b_All_init 8 = .ok (.dup, 1) := by decide +kernel
theorem d_All_init_9 : decode b_All_init 9 = .ok (.invokespecial 9, 3) := by decide +kernel
theorem d_All_init_12 : decode b_All_init 12 = .ok (.putfield 10, 3) := by decide +kernel
theorem d_All_init_15 : decode b_All_init 15 = .ok (.aload_n 0, 1) := by decide +kernel
theorem d_All_init_16 : decode b_All_init 16 = .ok (.new 7, 3) := by decide +kernel
theorem d_All_init_19 : decode b_All_init 19 = .ok (.dup, 1) := by decide +kernel
theorem d_All_init_20 : decode b_All_init 20 = .ok (.invokespecial 9, 3) := by decide +kernel
theorem d_All_init_23 : decode b_All_init 23 = .ok (.putfield 16, 3) := by decide +kernel
theorem d_All_init_26 : decode b_All_init 26 = .ok (.aload_n 0, 1) := by decide +kernel
theorem d_All_init_27 : decode b_All_init 27 = .ok (.new 7, 3) := by decide +kernel
theorem d_All_init_30 : decode b_All_init 30 = .ok (.dup, 1) := by decide +kernel
theorem d_All_init_31 : decode b_All_init 31 = .ok (.invokespecial 9, 3) := by decide +kernel
theorem d_All_init_34 : decode b_All_init 34 = .ok (.putfield 19, 3) := by decide +kernel
theorem d_All_init_37 : decode b_All_init 37 = .ok (.aload_n 0, 1) := by decide +kernel
theorem d_All_init_38 : decode b_All_init 38 = .ok (.new 22, 3) := by decide +kernel
theorem d_All_init_41 : decode b_All_init 41 = .ok (.dup, 1) := by decide +kernel
theorem d_All_init_42 : decode b_All_init 42 = .ok (.aload_n 0, 1) := by decide +kernel
theorem d_All_init_43 : decode b_All_init 43 = .ok (.getfield 10, 3) := by decide +kernel
theorem d_All_init_46 : decode b_All_init 46 = .ok (.invokespecial 24, 3) := by decide +kernel
theorem d_All_init_49 : decode b_All_init 49 = .ok (.putfield 27, 3) := by decide +kernel
theorem d_All_init_52 : decode b_All_init 52 = .ok (.aload_n 0, 1) := by decide +kernel
theorem d_All_init_53 : decode b_All_init 53 = .ok (.new 31, 3) := by decide +kernel
theorem d_All_init_56 : decode b_All_init 56 = .ok (.dup, 1) := by decide +kernel
theorem d_All_init_57 : decode b_All_init 57 = .ok (.invokespecial 33, 3) := by decide +kernel
theorem d_All_init_60 : decode b_All_init 60 = .ok (.putfield 34, 3) := by decide +kernel
theorem d_All_init_63 : decode b_All_init 63 = .ok (.aload_n 0, 1) := by decide +kernel
theorem d_All_init_64 : decode b_All_init 64 = .ok (.bipush 12, 2) := by decide +kernel
theorem d_All_init_66 : decode b_All_init 66 = .ok (.newarray .int, 2) := by decide +kernel
theorem d_All_init_68 : decode b_All_init 68 = .ok (.putfield 38, 3) := by decide +kernel
theorem d_All_init_71 : decode b_All_init 71 = .ok (.aload_n 0, 1) := by decide +kernel
theorem d_All_init_72 : decode b_All_init 72 = .ok (.bipush 7, 2) := by decide +kernel
theorem d_All_init_74 : decode b_All_init 74 = .ok (.newarray .int, 2) := by decide +kernel
theorem d_All_init_76 : decode b_All_init 76 = .ok (.putfield 42, 3) := by decide +kernel
theorem d_All_init_79 : decode b_All_init 79 = .ok (.aload_n 0, 1) := by decide +kernel
theorem d_All_init_80 : decode b_All_init 80 = .ok (.getfield 27, 3) := by decide +kernel
theorem d_All_init_83 : decode b_All_init 83 = .ok (.invokevirtual 45, 3) := by decide +kernel
theorem d_All_init_86 : decode b_All_init 86 = .ok (.return_, 1) := by decide +kernel
theorem d_All_letter_0 : decode b_All_letter 0 = .ok (.iload_n 1, 1) := by decide +kernel
theorem d_All_letter_1 : decode b_All_letter 1 = .ok (.ifCond .ge 10, 3) := by decide +kernel
theorem d_All_letter_4 : decode b_All_letter 4 = .ok (.aload_n 0, 1) := by decide +kernel
theorem d_All_letter_5 : decode b_All_letter 5 = .ok (.bipush (-4), 2) := by decide +kernel
theorem d_All_letter_7 : decode b_All_letter 7 = .ok (.invokevirtual 48, 3) := by decide +kernel
theorem d_All_letter_10 : decode b_All_letter 10 = .ok (.ireturn, 1) := by decide +kernel
theorem d_All_letter_11 : decode b_All_letter 11 = .ok (.iload_n 1, 1) := by decide +kernel
theorem d_All_letter_12 : decode b_All_letter 12 = .ok (.sipush 255, 3) := by decide +kernel
theorem d_All_letter_15 : decode b_All_letter 15 = .ok (.if_icmp .gt 13, 3) := by decide +kernel
theorem d_All_letter_18 : decode b_All_letter 18 = .ok (.aload_n 0, 1) := by decide +kernel
theorem d_All_letter_19 : decode b_All_letter 19 = .ok (.getfield 34, 3) := by decide +kernel
theorem d_All_letter_22 : decode b_All_letter 22 = .ok (.invokevirtual 52, 3) := by decide +kernel
theorem d_All_letter_25 : decode b_All_letter 25 = .ok (.ifCond .eq 10, 3) := by decide +kernel
theorem d_All_letter_28 : decode b_All_letter 28 = .ok (.aload_n 0, 1) := by decide +kernel
theorem d_All_letter_29 : decode b_All_letter 29 = .ok (.bipush (-6), 2) := by decide +kernel
theorem d_All_letter_31 : decode b_All_letter 31 = .ok (.invokevirtual 48, 3) := by decide +kernel
theorem d_All_letter_34 : decode b_All_letter 34 = .ok (.ireturn, 1) := by decide +kernel
theorem d_All_letter_35 : decode b_All_letter 35 = .ok (.aload_n 0, 1) := by decide +kernel
theorem d_All_letter_36 : decode b_All_letter 36 = .ok (.getfield 34, 3) := by decide +kernel
theorem d_All_letter_39 : decode b_All_letter 39 = .ok (.iload_n 1, 1) := by decide +kernel
theorem d_All_letter_40 : decode b_All_letter 40 = .ok (.invokevirtual 56, 3) := by decide +kernel
theorem d_All_letter_43 : decode b_All_letter 43 = .ok (.ireturn, 1) := by decide +kernel
theorem d_All_town_0 : decode b_All_town 0 = .ok (.aload_n 0, 1) := by decide +kernel
theorem d_All_town_1 : decode b_All_town 1 = .ok (.getfield 16, 3) := by decide +kernel
theorem d_All_town_4 : decode b_All_town 4 = .ok (.aload_n 0, 1) := by decide +kernel
theorem d_All_town_5 : decode b_All_town 5 = .ok (.getfield 10, 3) := by decide +kernel
theorem d_All_town_8 : decode b_All_town 8 = .ok (.invokevirtual 59, 3) := by decide +kernel
theorem d_All_town_11 : decode b_All_town 11 = .ok (.aload_n 0, 1) := by decide +kernel
theorem d_All_town_12 : decode b_All_town 12 = .ok (.getfield 34, 3) := by decide +kernel
theorem d_All_town_15 : decode b_All_town 15 = .ok (.aload_n 0, 1) := by decide +kernel
theorem d_All_town_16 : decode b_All_town 16 = .ok (.getfield 16, 3) := by decide +kernel
theorem d_All_town_19 : decode b_All_town 19 = .ok (.invokevirtual 62, 3) := by decide +kernel
theorem d_All_town_22 : decode b_All_town 22 = .ok (.istore_n 1, 1) := by decide +kernel
theorem d_All_town_23 : decode b_All_town 23 = .ok (.aload_n 0, 1) := by decide +kernel
theorem d_All_town_24 : decode b_All_town 24 = .ok (.getfield 34, 3) := by decide +kernel
theorem d_All_town_27 : decode b_All_town 27 = .ok (.invokevirtual 66, 3) := by decide +kernel
theorem d_All_town_30 : decode b_All_town 30 = .ok (.iload_n 1, 1) := by decide +kernel
theorem d_All_town_31 : decode b_All_town 31 = .ok (.ifCond .le 21, 3) := by decide +kernel
theorem d_All_town_34 : decode b_All_town 34 = .ok (.aload_n 0, 1) := by decide +kernel
theorem d_All_town_35 : decode b_All_town 35 = .ok (.getfield 10, 3) := by decide +kernel
theorem d_All_town_38 : decode b_All_town 38 = .ok (.aload_n 0, 1) := by decide +kernel
theorem d_All_town_39 : decode b_All_town 39 = .ok (.getfield 16, 3) := by decide +kernel
theorem d_All_town_42 : decode b_All_town 42 = .ok (.invokevirtual 59, 3) := by decide +kernel
theorem d_All_town_45 : decode b_All_town 45 = .ok (.aload_n 0, 1) := by decide +kernel
theorem d_All_town_46 : decode b_All_town 46 = .ok (.getfield 27, 3) := by decide +kernel
theorem d_All_town_49 : decode b_All_town 49 = .ok (.invokevirtual 45, 3) := by decide +kernel
theorem d_All_town_52 : decode b_All_town 52 = .ok (.iload_n 1, 1) := by decide +kernel
theorem d_All_town_53 : decode b_All_town 53 = .ok (.ireturn, 1) := by decide +kernel
theorem d_All_street_0 : decode b_All_street 0 = .ok (.aload_n 0, 1) := by decide +kernel
theorem d_All_street_1 : decode b_All_street 1 = .ok (.getfield 10, 3) := by decide +kernel
theorem d_All_street_4 : decode b_All_street 4 = .ok (.iload_n 1, 1) := by decide +kernel
theorem d_All_street_5 : decode b_All_street 5 = .ok (.invokevirtual 69, 3) := by decide +kernel
theorem d_All_street_8 : decode b_All_street 8 = .ok (.ifCond .ne 9, 3) := by decide +kernel
theorem d_All_street_11 : decode b_All_street 11 = .ok (.aload_n 0, 1) := by decide +kernel
theorem d_All_street_12 : decode b_All_street 12 = .ok (.iconst (-1), 1) := by decide +kernel
theorem d_All_street_13 : decode b_All_street 13 = .ok (.invokevirtual 73, 3) := by decide +kernel
theorem d_All_street_16 : decode b_All_street 16 = .ok (.ireturn, 1) := by decide +kernel
theorem d_All_street_17 : decode b_All_street 17 = .ok (.iload_n 2, 1) := by decide +kernel
theorem d_All_street_18 : decode b_All_street 18 = .ok (.tableswitch 83 0 4 #[34, 44, 54, 64, 74], 34) := by decide +kernel
theorem d_All_street_52 : decode b_All_street 52 = .ok (.aload_n 0, 1) := by decide +kernel
theorem d_All_street_53 : decode b_All_street 53 = .ok (.getfield 10, 3) := by decide +kernel
theorem d_All_street_56 : decode b_All_street 56 = .ok (.getfield 76, 3) := by decide +kernel
theorem d_All_street_59 : decode b_All_street 59 = .ok (.iload_n 1, 1) := by decide +kernel
theorem d_All_street_60 : decode b_All_street 60 = .ok (.iaload, 1) := by decide +kernel
theorem d_All_street_61 : decode b_All_street 61 = .ok (.ireturn, 1) := by decide +kernel
theorem d_All_street_62 : decode b_All_street 62 = .ok (.aload_n 0, 1) := by decide +kernel
theorem d_All_street_63 : decode b_All_street 63 = .ok (.getfield 10, 3) := by decide +kernel
theorem d_All_street_66 : decode b_All_street 66 = .ok (.getfield 79, 3) := by decide +kernel
theorem d_All_street_69 : decode b_All_street 69 = .ok (.iload_n 1, 1) := by decide +kernel
theorem d_All_street_70 : decode b_All_street 70 = .ok (.iaload, 1) := by decide +kernel
theorem d_All_street_71 : decode b_All_street 71 = .ok (.ireturn, 1) := by decide +kernel
theorem d_All_street_72 : decode b_All_street 72 = .ok (.aload_n 0, 1) := by decide +kernel
theorem d_All_street_73 : decode b_All_street 73 = .ok (.getfield 10, 3) := by decide +kernel
theorem d_All_street_76 : decode b_All_street 76 = .ok (.getfield 82, 3) := by decide +kernel
theorem d_All_street_79 : decode b_All_street 79 = .ok (.iload_n 1, 1) := by decide +kernel
theorem d_All_street_80 : decode b_All_street 80 = .ok (.iaload, 1) := by decide +kernel
theorem d_All_street_81 : decode b_All_street 81 = .ok (.ireturn, 1) := by decide +kernel
theorem d_All_street_82 : decode b_All_street 82 = .ok (.aload_n 0, 1) := by decide +kernel
theorem d_All_street_83 : decode b_All_street 83 = .ok (.getfield 10, 3) := by decide +kernel
theorem d_All_street_86 : decode b_All_street 86 = .ok (.getfield 85, 3) := by decide +kernel
theorem d_All_street_89 : decode b_All_street 89 = .ok (.iload_n 1, 1) := by decide +kernel
theorem d_All_street_90 : decode b_All_street 90 = .ok (.iaload, 1) := by decide +kernel
theorem d_All_street_91 : decode b_All_street 91 = .ok (.ireturn, 1) := by decide +kernel
theorem d_All_street_92 : decode b_All_street 92 = .ok (.aload_n 0, 1) := by decide +kernel
theorem d_All_street_93 : decode b_All_street 93 = .ok (.getfield 27, 3) := by decide +kernel
theorem d_All_street_96 : decode b_All_street 96 = .ok (.iload_n 1, 1) := by decide +kernel
theorem d_All_street_97 : decode b_All_street 97 = .ok (.invokevirtual 88, 3) := by decide +kernel
theorem d_All_street_100 : decode b_All_street 100 = .ok (.ireturn, 1) := by decide +kernel
theorem d_All_street_101 : decode b_All_street 101 = .ok (.aload_n 0, 1) := by decide +kernel
theorem d_All_street_102 : decode b_All_street 102 = .ok (.bipush (-2), 2) := by decide +kernel
theorem d_All_street_104 : decode b_All_street 104 = .ok (.invokevirtual 73, 3) := by decide +kernel
theorem d_All_street_107 : decode b_All_street 107 = .ok (.ireturn, 1) := by decide +kernel
theorem d_All_plot_0 : decode b_All_plot 0 = .ok (.aload_n 0, 1) := by decide +kernel
theorem d_All_plot_1 : decode b_All_plot 1 = .ok (.getfield 10, 3) := by decide +kernel
theorem d_All_plot_4 : decode b_All_plot 4 = .ok (.iload_n 1, 1) := by decide +kernel
theorem d_All_plot_5 : decode b_All_plot 5 = .ok (.invokevirtual 91, 3) := by decide +kernel
theorem d_All_plot_8 : decode b_All_plot 8 = .ok (.ifCond .ne 9, 3) := by decide +kernel
theorem d_All_plot_11 : decode b_All_plot 11 = .ok (.aload_n 0, 1) := by decide +kernel
theorem d_All_plot_12 : decode b_All_plot 12 = .ok (.iconst (-1), 1) := by decide +kernel
theorem d_All_plot_13 : decode b_All_plot 13 = .ok (.invokevirtual 73, 3) := by decide +kernel
theorem d_All_plot_16 : decode b_All_plot 16 = .ok (.ireturn, 1) := by decide +kernel
theorem d_All_plot_17 : decode b_All_plot 17 = .ok (.iload_n 2, 1) := by decide +kernel
theorem d_All_plot_18 : decode b_All_plot 18 = .ok (.lookupswitch 46 #[(0, 26), (1, 36)], 26) := by decide +kernel
theorem d_All_plot_44 : decode b_All_plot 44 = .ok (.aload_n 0, 1) := by decide +kernel
theorem d_All_plot_45 : decode b_All_plot 45 = .ok (.getfield 10, 3) := by decide +kernel
theorem d_All_plot_48 : decode b_All_plot 48 = .ok (.getfield 94, 3) := by decide +kernel
theorem d_All_plot_51 : decode b_All_plot 51 = .ok (.iload_n 1, 1) := by decide +kernel
theorem d_All_plot_52 : decode b_All_plot 52 = .ok (.iaload, 1) := by decide +kernel
theorem d_All_plot_53 : decode b_All_plot 53 = .ok (.ireturn, 1) := by decide +kernel
theorem d_All_plot_54 : decode b_All_plot 54 = .ok (.aload_n 0, 1) := by decide +kernel
theorem d_All_plot_55 : decode b_All_plot 55 = .ok (.getfield 10, 3) := by decide +kernel
theorem d_All_plot_58 : decode b_All_plot 58 = .ok (.getfield 97, 3) := by decide +kernel
theorem d_All_plot_61 : decode b_All_plot 61 = .ok (.iload_n 1, 1) := by decide +kernel
theorem d_All_plot_62 : decode b_All_plot 62 = .ok (.iaload, 1) := by decide +kernel
theorem d_All_plot_63 : decode b_All_plot 63 = .ok (.ireturn, 1) := by decide +kernel
theorem d_All_plot_64 : decode b_All_plot 64 = .ok (.aload_n 0, 1) := by decide +kernel
theorem d_All_plot_65 : decode b_All_plot 65 = .ok (.bipush (-2), 2) := by decide +kernel
theorem d_All_plot_67 : decode b_All_plot 67 = .ok (.invokevirtual 73, 3) := by decide +kernel
theorem d_All_plot_70 : decode b_All_plot 70 = .ok (.ireturn, 1) := by decide +kernel
theorem d_All_crossing_0 : decode b_All_crossing 0 = .ok (.aload_n 0, 1) := by decide +kernel
theorem d_All_crossing_1 : decode b_All_crossing 1 = .ok (.getfield 10, 3) := by decide +kernel
theorem d_All_crossing_4 : decode b_All_crossing 4 = .ok (.iload_n 1, 1) := by decide +kernel
theorem d_All_crossing_5 : decode b_All_crossing 5 = .ok (.invokevirtual 69, 3) := by decide +kernel
theorem d_All_crossing_8 : decode b_All_crossing 8 = .ok (.ifCond .eq 19, 3) := by decide +kernel
theorem d_All_crossing_11 : decode b_All_crossing 11 = .ok (.aload_n 0, 1) := by decide +kernel
theorem d_All_crossing_12 : decode b_All_crossing 12 = .ok (.getfield 10, 3) := by decide +kernel
theorem d_All_crossing_15 : decode b_All_crossing 15 = .ok (.iload_n 2, 1) := by decide +kernel
theorem d_All_crossing_16 : decode b_All_crossing 16 = .ok (.invokevirtual 69, 3) := by decide +kernel
theorem d_All_crossing_19 : decode b_All_crossing 19 = .ok (.ifCond .eq 8, 3) := by decide +kernel
theorem d_All_crossing_22 : decode b_All_crossing 22 = .ok (.iload_n 1, 1) := by decide +kernel
theorem d_All_crossing_23 : decode b_All_crossing 23 = .ok (.iload_n 2, 1) := by decide +kernel
theorem d_All_crossing_24 : decode b_All_crossing 24 = .ok (.if_icmp .ne 9, 3) := by decide +kernel
theorem d_All_crossing_27 : decode b_All_crossing 27 = .ok (.aload_n 0, 1) := by decide +kernel
theorem d_All_crossing_28 : decode b_All_crossing 28 = .ok (.iconst (-1), 1) := by decide +kernel
theorem d_All_crossing_29 : decode b_All_crossing 29 = .ok (.invokevirtual 73, 3) := by decide +kernel
theorem d_All_crossing_32 : decode b_All_crossing 32 = .ok (.ireturn, 1) := by decide +kernel
theorem d_All_crossing_33 : decode b_All_crossing 33 = .ok (.aload_n 0, 1) := by decide +kernel
theorem d_All_crossing_34 : decode b_All_crossing 34 = .ok (.getfield 10, 3) := by decide +kernel
theorem d_All_crossing_37 : decode b_All_crossing 37 = .ok (.iload_n 1, 1) := by decide +kernel
theorem d_All_crossing_38 : decode b_All_crossing 38 = .ok (.iload_n 2, 1) := by decide +kernel
theorem d_All_crossing_39 : decode b_All_crossing 39 = .ok (.invokevirtual 100, 3) := by decide +kernel
theorem d_All_crossing_42 : decode b_All_crossing 42 = .ok (.istore 4, 2) := by decide +kernel
theorem d_All_crossing_44 : decode b_All_crossing 44 = .ok (.aload_n 0, 1) := by decide +kernel
theorem d_All_crossing_45 : decode b_All_crossing 45 = .ok (.getfield 10, 3) := by decide +kernel
theorem d_All_crossing_48 : decode b_All_crossing 48 = .ok (.iload_n 1, 1) := by decide +kernel
theorem d_All_crossing_49 : decode b_All_crossing 49 = .ok (.iload_n 2, 1) := by decide +kernel
theorem d_All_crossing_50 : decode b_All_crossing 50 = .ok (.invokevirtual 104, 3) := by decide +kernel
theorem d_All_crossing_53 : decode b_All_crossing 53 = .ok (.istore 5, 2) := by decide +kernel
theorem d_All_crossing_55 : decode b_All_crossing 55 = .ok (.aload_n 0, 1) := by decide +kernel
theorem d_All_crossing_56 : decode b_All_crossing 56 = .ok (.getfield 10, 3) := by decide +kernel
theorem d_All_crossing_59 : decode b_All_crossing 59 = .ok (.iload_n 1, 1) := by decide +kernel
theorem d_All_crossing_60 : decode b_All_crossing 60 = .ok (.iload_n 2, 1) := by decide +kernel
theorem d_All_crossing_61 : decode b_All_crossing 61 = .ok (.invokevirtual 107, 3) := by decide +kernel
theorem d_All_crossing_64 : decode b_All_crossing 64 = .ok (.istore 6, 2) := by decide +kernel
theorem d_All_crossing_66 : decode b_All_crossing 66 = .ok (.iload_n 3, 1) := by decide +kernel
theorem d_All_crossing_67 : decode b_All_crossing 67 = .ok (.tableswitch 69 0 3 #[29, 39, 49, 59], 29) := by decide +kernel
theorem d_All_crossing_96 : decode b_All_crossing 96 = .ok (.iload 5, 2) := by decide +kernel
theorem d_All_crossing_98 : decode b_All_crossing 98 = .ok (.iload 5, 2) := by decide +kernel
theorem d_All_crossing_100 : decode b_All_crossing 100 = .ok (.iload 4, 2) := by decide +kernel
theorem d_All_crossing_102 : decode b_All_crossing 102 = .ok (.invokestatic 110, 3) := by decide +kernel
theorem d_All_crossing_105 : decode b_All_crossing 105 = .ok (.ireturn, 1) := by decide +kernel
theorem d_All_crossing_106 : decode b_All_crossing 106 = .ok (.iload 4, 2) := by decide +kernel
theorem d_All_crossing_108 : decode b_All_crossing 108 = .ok (.iload 5, 2) := by decide +kernel
theorem d_All_crossing_110 : decode b_All_crossing 110 = .ok (.iload 4, 2) := by decide +kernel
theorem d_All_crossing_112 : decode b_All_crossing 112 = .ok (.invokestatic 110, 3) := by decide +kernel
theorem d_All_crossing_115 : decode b_All_crossing 115 = .ok (.ireturn, 1) := by decide +kernel
theorem d_All_crossing_116 : decode b_All_crossing 116 = .ok (.iload 6, 2) := by decide +kernel
theorem d_All_crossing_118 : decode b_All_crossing 118 = .ok (.iload 6, 2) := by decide +kernel
theorem d_All_crossing_120 : decode b_All_crossing 120 = .ok (.iload 4, 2) := by decide +kernel
theorem d_All_crossing_122 : decode b_All_crossing 122 = .ok (.invokestatic 110, 3) := by decide +kernel
theorem d_All_crossing_125 : decode b_All_crossing 125 = .ok (.ireturn, 1) := by decide +kernel
theorem d_All_crossing_126 : decode b_All_crossing 126 = .ok (.iload 4, 2) := by decide +kernel
theorem d_All_crossing_128 : decode b_All_crossing 128 = .ok (.iload 6, 2) := by decide +kernel
theorem d_All_crossing_130 : decode b_All_crossing 130 = .ok (.iload 4, 2) := by decide +kernel
theorem d_All_crossing_132 : decode b_All_crossing 132 = .ok (.invokestatic 110, 3) := by decide +kernel
theorem d_All_crossing_135 : decode b_All_crossing 135 = .ok (.ireturn, 1) := by decide +kernel
theorem d_All_crossing_136 : decode b_All_crossing 136 = .ok (.aload_n 0, 1) := by decide +kernel
theorem d_All_crossing_137 : decode b_All_crossing 137 = .ok (.bipush (-2), 2) := by decide +kernel
theorem d_All_crossing_139 : decode b_All_crossing 139 = .ok (.invokevirtual 73, 3) := by decide +kernel
theorem d_All_crossing_142 : decode b_All_crossing 142 = .ok (.ireturn, 1) := by decide +kernel
theorem d_All_quarters_0 : decode b_All_quarters 0 = .ok (.aload_n 0, 1) := by decide +kernel
theorem d_All_quarters_1 : decode b_All_quarters 1 = .ok (.getfield 27, 3) := by decide +kernel
theorem d_All_quarters_4 : decode b_All_quarters 4 = .ok (.getfield 114, 3) := by decide +kernel
theorem d_All_quarters_7 : decode b_All_quarters 7 = .ok (.invokestatic 118, 3) := by decide +kernel
theorem d_All_quarters_10 : decode b_All_quarters 10 = .ok (.ireturn, 1) := by decide +kernel
theorem d_All_open_0 : decode b_All_open 0 = .ok (.aload_n 0, 1) := by decide +kernel
theorem d_All_open_1 : decode b_All_open 1 = .ok (.getfield 27, 3) := by decide +kernel
theorem d_All_open_4 : decode b_All_open 4 = .ok (.getfield 124, 3) := by decide +kernel
theorem d_All_open_7 : decode b_All_open 7 = .ok (.invokestatic 118, 3) := by decide +kernel
theorem d_All_open_10 : decode b_All_open 10 = .ok (.ireturn, 1) := by decide +kernel
theorem d_All_with_0 : decode b_All_with 0 = .ok (.iload_n 1, 1) := by decide +kernel
theorem d_All_with_1 : decode b_All_with 1 = .ok (.ifCond .ge 10, 3) := by decide +kernel
theorem d_All_with_4 : decode b_All_with 4 = .ok (.aload_n 0, 1) := by decide +kernel
theorem d_All_with_5 : decode b_All_with 5 = .ok (.bipush (-4), 2) := by decide +kernel
theorem d_All_with_7 : decode b_All_with 7 = .ok (.invokevirtual 48, 3) := by decide +kernel
theorem d_All_with_10 : decode b_All_with 10 = .ok (.ireturn, 1) := by decide +kernel
theorem d_All_with_11 : decode b_All_with 11 = .ok (.iload_n 1, 1) := by decide +kernel
theorem d_All_with_12 : decode b_All_with 12 = .ok (.bipush 12, 2) := by decide +kernel
theorem d_All_with_14 : decode b_All_with 14 = .ok (.if_icmp .le 10, 3) := by decide +kernel
theorem d_All_with_17 : decode b_All_with 17 = .ok (.aload_n 0, 1) := by decide +kernel
theorem d_All_with_18 : decode b_All_with 18 = .ok (.bipush (-6), 2) := by decide +kernel
theorem d_All_with_20 : decode b_All_with 20 = .ok (.invokevirtual 48, 3) := by decide +kernel
theorem d_All_with_23 : decode b_All_with 23 = .ok (.ireturn, 1) := by decide +kernel
theorem d_All_with_24 : decode b_All_with 24 = .ok (.iconst 0, 1) := by decide +kernel
theorem d_All_with_25 : decode b_All_with 25 = .ok (.istore_n 2, 1) := by decide +kernel
theorem d_All_with_26 : decode b_All_with 26 = .ok (.iconst 0, 1) := by decide +kernel
theorem d_All_with_27 : decode b_All_with 27 = .ok (.istore_n 3, 1) := by decide +kernel
theorem d_All_with_28 : decode b_All_with 28 = .ok (.iload_n 3, 1) := by decide +kernel
theorem d_All_with_29 : decode b_All_with 29 = .ok (.bipush 64, 2) := by decide +kernel
theorem d_All_with_31 : decode b_All_with 31 = .ok (.if_icmp .ge 35, 3) := by decide +kernel
theorem d_All_with_34 : decode b_All_with 34 = .ok (.aload_n 0, 1) := by decide +kernel
theorem d_All_with_35 : decode b_All_with 35 = .ok (.getfield 27, 3) := by decide +kernel
theorem d_All_with_38 : decode b_All_with 38 = .ok (.iload_n 3, 1) := by decide +kernel
theorem d_All_with_39 : decode b_All_with 39 = .ok (.invokevirtual 127, 3) := by decide +kernel
theorem d_All_with_42 : decode b_All_with 42 = .ok (.ifCond .eq 18, 3) := by decide +kernel
theorem d_All_with_45 : decode b_All_with 45 = .ok (.aload_n 0, 1) := by decide +kernel
theorem d_All_with_46 : decode b_All_with 46 = .ok (.getfield 27, 3) := by decide +kernel
theorem d_All_with_49 : decode b_All_with 49 = .ok (.iload_n 3, 1) := by decide +kernel
theorem d_All_with_50 : decode b_All_with 50 = .ok (.invokevirtual 130, 3) := by decide +kernel
theorem d_All_with_53 : decode b_All_with 53 = .ok (.iload_n 1, 1) := by decide +kernel
theorem d_All_with_54 : decode b_All_with 54 = .ok (.if_icmp .ne 6, 3) := by decide +kernel
theorem d_All_with_57 : decode b_All_with 57 = .ok (.iinc 2 1, 3) := by decide +kernel
theorem d_All_with_60 : decode b_All_with 60 = .ok (.iinc 3 1, 3) := by decide +kernel
theorem d_All_with_63 : decode b_All_with 63 = .ok (.goto (-35), 3) := by decide +kernel
theorem d_All_with_66 : decode b_All_with 66 = .ok (.iload_n 2, 1) := by decide +kernel
theorem d_All_with_67 : decode b_All_with 67 = .ok (.ireturn, 1) := by decide +kernel
theorem d_All_corners_0 : decode b_All_corners 0 = .ok (.aload_n 0, 1) := by decide +kernel
theorem d_All_corners_1 : decode b_All_corners 1 = .ok (.getfield 27, 3) := by decide +kernel
theorem d_All_corners_4 : decode b_All_corners 4 = .ok (.iload_n 1, 1) := by decide +kernel
theorem d_All_corners_5 : decode b_All_corners 5 = .ok (.invokevirtual 127, 3) := by decide +kernel
theorem d_All_corners_8 : decode b_All_corners 8 = .ok (.ifCond .eq 14, 3) := by decide +kernel
theorem d_All_corners_11 : decode b_All_corners 11 = .ok (.aload_n 0, 1) := by decide +kernel
theorem d_All_corners_12 : decode b_All_corners 12 = .ok (.getfield 27, 3) := by decide +kernel
theorem d_All_corners_15 : decode b_All_corners 15 = .ok (.iload_n 1, 1) := by decide +kernel
theorem d_All_corners_16 : decode b_All_corners 16 = .ok (.invokevirtual 130, 3) := by decide +kernel
theorem d_All_corners_19 : decode b_All_corners 19 = .ok (.goto 8, 3) := by decide +kernel
theorem d_All_corners_22 : decode b_All_corners 22 = .ok (.aload_n 0, 1) := by decide +kernel
theorem d_All_corners_23 : decode b_All_corners 23 = .ok (.iconst (-1), 1) := by decide +kernel
theorem d_All_corners_24 : decode b_All_corners 24 = .ok (.invokevirtual 48, 3) := by decide +kernel
theorem d_All_corners_27 : decode b_All_corners 27 = .ok (.ireturn, 1) := by decide +kernel
theorem d_All_sides_0 : decode b_All_sides 0 = .ok (.aload_n 0, 1) := by decide +kernel
theorem d_All_sides_1 : decode b_All_sides 1 = .ok (.getfield 27, 3) := by decide +kernel
theorem d_All_sides_4 : decode b_All_sides 4 = .ok (.iload_n 1, 1) := by decide +kernel
theorem d_All_sides_5 : decode b_All_sides 5 = .ok (.invokevirtual 127, 3) := by decide +kernel
theorem d_All_sides_8 : decode b_All_sides 8 = .ok (.ifCond .eq 14, 3) := by decide +kernel
theorem d_All_sides_11 : decode b_All_sides 11 = .ok (.aload_n 0, 1) := by decide +kernel
theorem d_All_sides_12 : decode b_All_sides 12 = .ok (.getfield 27, 3) := by decide +kernel
theorem d_All_sides_15 : decode b_All_sides 15 = .ok (.iload_n 1, 1) := by decide +kernel
theorem d_All_sides_16 : decode b_All_sides 16 = .ok (.invokevirtual 133, 3) := by decide +kernel
theorem d_All_sides_19 : decode b_All_sides 19 = .ok (.goto 8, 3) := by decide +kernel
theorem d_All_sides_22 : decode b_All_sides 22 = .ok (.aload_n 0, 1) := by decide +kernel
theorem d_All_sides_23 : decode b_All_sides 23 = .ok (.iconst (-1), 1) := by decide +kernel
theorem d_All_sides_24 : decode b_All_sides 24 = .ok (.invokevirtual 48, 3) := by decide +kernel
theorem d_All_sides_27 : decode b_All_sides 27 = .ok (.ireturn, 1) := by decide +kernel
theorem d_All_isOpen_0 : decode b_All_isOpen 0 = .ok (.aload_n 0, 1) := by decide +kernel
theorem d_All_isOpen_1 : decode b_All_isOpen 1 = .ok (.getfield 27, 3) := by decide +kernel
theorem d_All_isOpen_4 : decode b_All_isOpen 4 = .ok (.iload_n 1, 1) := by decide +kernel
theorem d_All_isOpen_5 : decode b_All_isOpen 5 = .ok (.invokevirtual 127, 3) := by decide +kernel
theorem d_All_isOpen_8 : decode b_All_isOpen 8 = .ok (.ifCond .ne 9, 3) := by decide +kernel
theorem d_All_isOpen_11 : decode b_All_isOpen 11 = .ok (.aload_n 0, 1) := by decide +kernel
theorem d_All_isOpen_12 : decode b_All_isOpen 12 = .ok (.iconst (-1), 1) := by decide +kernel
theorem d_All_isOpen_13 : decode b_All_isOpen 13 = .ok (.invokevirtual 48, 3) := by decide +kernel
theorem d_All_isOpen_16 : decode b_All_isOpen 16 = .ok (.ireturn, 1) := by decide +kernel
theorem d_All_isOpen_17 : decode b_All_isOpen 17 = .ok (.aload_n 0, 1) := by decide +kernel
theorem d_All_isOpen_18 : decode b_All_isOpen 18 = .ok (.getfield 27, 3) := by decide +kernel
theorem d_All_isOpen_21 : decode b_All_isOpen 21 = .ok (.getfield 124, 3) := by decide +kernel
theorem d_All_isOpen_24 : decode b_All_isOpen 24 = .ok (.iload_n 1, 1) := by decide +kernel
theorem d_All_isOpen_25 : decode b_All_isOpen 25 = .ok (.invokestatic 136, 3) := by decide +kernel
theorem d_All_isOpen_28 : decode b_All_isOpen 28 = .ok (.ifCond .eq 7, 3) := by decide +kernel
theorem d_All_isOpen_31 : decode b_All_isOpen 31 = .ok (.iconst 1, 1) := by decide +kernel
theorem d_All_isOpen_32 : decode b_All_isOpen 32 = .ok (.goto 4, 3) := by decide +kernel
theorem d_All_isOpen_35 : decode b_All_isOpen 35 = .ok (.iconst 0, 1) := by decide +kernel
theorem d_All_isOpen_36 : decode b_All_isOpen 36 = .ok (.ireturn, 1) := by decide +kernel
theorem d_All_whole_0 : decode b_All_whole 0 = .ok (.iconst 0, 1) := by decide +kernel
theorem d_All_whole_1 : decode b_All_whole 1 = .ok (.istore_n 1, 1) := by decide +kernel
theorem d_All_whole_2 : decode b_All_whole 2 = .ok (.iconst 0, 1) := by decide +kernel
theorem d_All_whole_3 : decode b_All_whole 3 = .ok (.istore_n 2, 1) := by decide +kernel
theorem d_All_whole_4 : decode b_All_whole 4 = .ok (.iload_n 2, 1) := by decide +kernel
theorem d_All_whole_5 : decode b_All_whole 5 = .ok (.bipush 64, 2) := by decide +kernel
theorem d_All_whole_7 : decode b_All_whole 7 = .ok (.if_icmp .ge 41, 3) := by decide +kernel
theorem d_All_whole_10 : decode b_All_whole 10 = .ok (.aload_n 0, 1) := by decide +kernel
theorem d_All_whole_11 : decode b_All_whole 11 = .ok (.getfield 27, 3) := by decide +kernel
theorem d_All_whole_14 : decode b_All_whole 14 = .ok (.iload_n 2, 1) := by decide +kernel
theorem d_All_whole_15 : decode b_All_whole 15 = .ok (.invokevirtual 127, 3) := by decide +kernel
theorem d_All_whole_18 : decode b_All_whole 18 = .ok (.ifCond .eq 24, 3) := by decide +kernel
theorem d_All_whole_21 : decode b_All_whole 21 = .ok (.aload_n 0, 1) := by decide +kernel
theorem d_All_whole_22 : decode b_All_whole 22 = .ok (.getfield 27, 3) := by decide +kernel
theorem d_All_whole_25 : decode b_All_whole 25 = .ok (.iload_n 2, 1) := by decide +kernel
theorem d_All_whole_26 : decode b_All_whole 26 = .ok (.invokevirtual 133, 3) := by decide +kernel
theorem d_All_whole_29 : decode b_All_whole 29 = .ok (.aload_n 0, 1) := by decide +kernel
theorem d_All_whole_30 : decode b_All_whole 30 = .ok (.getfield 10, 3) := by decide +kernel
theorem d_All_whole_33 : decode b_All_whole 33 = .ok (.getfield 140, 3) := by decide +kernel
theorem d_All_whole_36 : decode b_All_whole 36 = .ok (.if_icmp .ne 6, 3) := by decide +kernel
theorem d_All_whole_39 : decode b_All_whole 39 = .ok (.iinc 1 1, 3) := by decide +kernel
theorem d_All_whole_42 : decode b_All_whole 42 = .ok (.iinc 2 1, 3) := by decide +kernel
theorem d_All_whole_45 : decode b_All_whole 45 = .ok (.goto (-41), 3) := by decide +kernel
theorem d_All_whole_48 : decode b_All_whole 48 = .ok (.iload_n 1, 1) := by decide +kernel
theorem d_All_whole_49 : decode b_All_whole 49 = .ok (.ireturn, 1) := by decide +kernel
theorem d_All_points_0 : decode b_All_points 0 = .ok (.iload_n 1, 1) := by decide +kernel
theorem d_All_points_1 : decode b_All_points 1 = .ok (.tableswitch 51 0 2 #[27, 35, 43], 27) := by decide +kernel
theorem d_All_points_28 : decode b_All_points 28 = .ok (.aload_n 0, 1) := by decide +kernel
theorem d_All_points_29 : decode b_All_points 29 = .ok (.getfield 27, 3) := by decide +kernel
theorem d_All_points_32 : decode b_All_points 32 = .ok (.getfield 144, 3) := by decide +kernel
theorem d_All_points_35 : decode b_All_points 35 = .ok (.ireturn, 1) := by decide +kernel
theorem d_All_points_36 : decode b_All_points 36 = .ok (.aload_n 0, 1) := by decide +kernel
theorem d_All_points_37 : decode b_All_points 37 = .ok (.getfield 27, 3) := by decide +kernel
theorem d_All_points_40 : decode b_All_points 40 = .ok (.invokevirtual 147, 3) := by decide +kernel
theorem d_All_points_43 : decode b_All_points 43 = .ok (.ireturn, 1) := by decide +kernel
theorem d_All_points_44 : decode b_All_points 44 = .ok (.aload_n 0, 1) := by decide +kernel
theorem d_All_points_45 : decode b_All_points 45 = .ok (.getfield 27, 3) := by decide +kernel
theorem d_All_points_48 : decode b_All_points 48 = .ok (.invokevirtual 151, 3) := by decide +kernel
theorem d_All_points_51 : decode b_All_points 51 = .ok (.ireturn, 1) := by decide +kernel
theorem d_All_points_52 : decode b_All_points 52 = .ok (.aload_n 0, 1) := by decide +kernel
theorem d_All_points_53 : decode b_All_points 53 = .ok (.bipush (-2), 2) := by decide +kernel
theorem d_All_points_55 : decode b_All_points 55 = .ok (.invokevirtual 48, 3) := by decide +kernel
theorem d_All_points_58 : decode b_All_points 58 = .ok (.ireturn, 1) := by decide +kernel
theorem d_All_lamps_0 : decode b_All_lamps 0 = .ok (.iconst 0, 1) := by decide +kernel
theorem d_All_lamps_1 : decode b_All_lamps 1 = .ok (.istore_n 1, 1) := by decide +kernel
theorem d_All_lamps_2 : decode b_All_lamps 2 = .ok (.iconst 0, 1) := by decide +kernel
theorem d_All_lamps_3 : decode b_All_lamps 3 = .ok (.istore_n 2, 1) := by decide +kernel
theorem d_All_lamps_4 : decode b_All_lamps 4 = .ok (.iload_n 2, 1) := by decide +kernel
theorem d_All_lamps_5 : decode b_All_lamps 5 = .ok (.aload_n 0, 1) := by decide +kernel
theorem d_All_lamps_6 : decode b_All_lamps 6 = .ok (.getfield 10, 3) := by decide +kernel
theorem d_All_lamps_9 : decode b_All_lamps 9 = .ok (.getfield 140, 3) := by decide +kernel
theorem d_All_lamps_12 : decode b_All_lamps 12 = .ok (.if_icmp .ge 20, 3) := by decide +kernel
theorem d_All_lamps_15 : decode b_All_lamps 15 = .ok (.iload_n 1, 1) := by decide +kernel
theorem d_All_lamps_16 : decode b_All_lamps 16 = .ok (.aload_n 0, 1) := by decide +kernel
theorem d_All_lamps_17 : decode b_All_lamps 17 = .ok (.getfield 27, 3) := by decide +kernel
theorem d_All_lamps_20 : decode b_All_lamps 20 = .ok (.iload_n 2, 1) := by decide +kernel
theorem d_All_lamps_21 : decode b_All_lamps 21 = .ok (.invokevirtual 88, 3) := by decide +kernel
theorem d_All_lamps_24 : decode b_All_lamps 24 = .ok (.iadd, 1) := by decide +kernel
theorem d_All_lamps_25 : decode b_All_lamps 25 = .ok (.istore_n 1, 1) := by decide +kernel
theorem d_All_lamps_26 : decode b_All_lamps 26 = .ok (.iinc 2 1, 3) := by decide +kernel
theorem d_All_lamps_29 : decode b_All_lamps 29 = .ok (.goto (-25), 3) := by decide +kernel
theorem d_All_lamps_32 : decode b_All_lamps 32 = .ok (.iload_n 1, 1) := by decide +kernel
theorem d_All_lamps_33 : decode b_All_lamps 33 = .ok (.ireturn, 1) := by decide +kernel
theorem d_All_where_0 : decode b_All_where 0 = .ok (.aload_n 0, 1) := by decide +kernel
theorem d_All_where_1 : decode b_All_where 1 = .ok (.getfield 10, 3) := by decide +kernel
theorem d_All_where_4 : decode b_All_where 4 = .ok (.iload_n 1, 1) := by decide +kernel
theorem d_All_where_5 : decode b_All_where 5 = .ok (.invokevirtual 91, 3) := by decide +kernel
theorem d_All_where_8 : decode b_All_where 8 = .ok (.ifCond .eq 14, 3) := by decide +kernel
theorem d_All_where_11 : decode b_All_where 11 = .ok (.aload_n 0, 1) := by decide +kernel
theorem d_All_where_12 : decode b_All_where 12 = .ok (.getfield 27, 3) := by decide +kernel
theorem d_All_where_15 : decode b_All_where 15 = .ok (.iload_n 1, 1) := by decide +kernel
theorem d_All_where_16 : decode b_All_where 16 = .ok (.invokevirtual 154, 3) := by decide +kernel
theorem d_All_where_19 : decode b_All_where 19 = .ok (.goto 8, 3) := by decide +kernel
theorem d_All_where_22 : decode b_All_where 22 = .ok (.aload_n 0, 1) := by decide +kernel
theorem d_All_where_23 : decode b_All_where 23 = .ok (.iconst (-1), 1) := by decide +kernel
theorem d_All_where_24 : decode b_All_where 24 = .ok (.invokevirtual 48, 3) := by decide +kernel
theorem d_All_where_27 : decode b_All_where 27 = .ok (.ireturn, 1) := by decide +kernel
theorem d_All_together_0 : decode b_All_together 0 = .ok (.aload_n 0, 1) := by decide +kernel
theorem d_All_together_1 : decode b_All_together 1 = .ok (.getfield 10, 3) := by decide +kernel
theorem d_All_together_4 : decode b_All_together 4 = .ok (.iload_n 1, 1) := by decide +kernel
theorem d_All_together_5 : decode b_All_together 5 = .ok (.invokevirtual 91, 3) := by decide +kernel
theorem d_All_together_8 : decode b_All_together 8 = .ok (.ifCond .ne 9, 3) := by decide +kernel
theorem d_All_together_11 : decode b_All_together 11 = .ok (.aload_n 0, 1) := by decide +kernel
theorem d_All_together_12 : decode b_All_together 12 = .ok (.iconst (-1), 1) := by decide +kernel
theorem d_All_together_13 : decode b_All_together 13 = .ok (.invokevirtual 48, 3) := by decide +kernel
theorem d_All_together_16 : decode b_All_together 16 = .ok (.ireturn, 1) := by decide +kernel
theorem d_All_together_17 : decode b_All_together 17 = .ok (.aload_n 0, 1) := by decide +kernel
theorem d_All_together_18 : decode b_All_together 18 = .ok (.getfield 27, 3) := by decide +kernel
theorem d_All_together_21 : decode b_All_together 21 = .ok (.iload_n 1, 1) := by decide +kernel
theorem d_All_together_22 : decode b_All_together 22 = .ok (.invokevirtual 154, 3) := by decide +kernel
theorem d_All_together_25 : decode b_All_together 25 = .ok (.istore_n 2, 1) := by decide +kernel
theorem d_All_together_26 : decode b_All_together 26 = .ok (.iconst 0, 1) := by decide +kernel
theorem d_All_together_27 : decode b_All_together 27 = .ok (.istore_n 3, 1) := by decide +kernel
theorem d_All_together_28 : decode b_All_together 28 = .ok (.iconst 0, 1) := by decide +kernel
theorem d_All_together_29 : decode b_All_together 29 = .ok (.istore 4, 2) := by decide +kernel
theorem d_All_together_31 : decode b_All_together 31 = .ok (.iload 4, 2) := by decide +kernel
theorem d_All_together_33 : decode b_All_together 33 = .ok (.aload_n 0, 1) := by decide +kernel
theorem d_All_together_34 : decode b_All_together 34 = .ok (.getfield 10, 3) := by decide +kernel
theorem d_All_together_37 : decode b_All_together 37 = .ok (.getfield 157, 3) := by decide +kernel
theorem d_All_together_40 : decode b_All_together 40 = .ok (.if_icmp .ge 35, 3) := by decide +kernel
theorem d_All_together_43 : decode b_All_together 43 = .ok (.iload_n 2, 1) := by decide +kernel
theorem d_All_together_44 : decode b_All_together 44 = .ok (.bipush (-9), 2) := by decide +kernel
theorem d_All_together_46 : decode b_All_together 46 = .ok (.if_icmp .eq 23, 3) := by decide +kernel
theorem d_All_together_49 : decode b_All_together 49 = .ok (.aload_n 0, 1) := by decide +kernel
theorem d_All_together_50 : decode b_All_together 50 = .ok (.getfield 27, 3) := by decide +kernel
theorem d_All_together_53 : decode b_All_together 53 = .ok (.iload 4, 2) := by decide +kernel
theorem d_All_together_55 : decode b_All_together 55 = .ok (.invokevirtual 154, 3) := by decide +kernel
theorem d_All_together_58 : decode b_All_together 58 = .ok (.iload_n 2, 1) := by decide +kernel
theorem d_All_together_59 : decode b_All_together 59 = .ok (.if_icmp .ne 10, 3) := by decide +kernel
theorem d_All_together_62 : decode b_All_together 62 = .ok (.iload_n 3, 1) := by decide +kernel
theorem d_All_together_63 : decode b_All_together 63 = .ok (.iconst 1, 1) := by decide +kernel
theorem d_All_together_64 : decode b_All_together 64 = .ok (.iload 4, 2) := by decide +kernel
theorem d_All_together_66 : decode b_All_together 66 = .ok (.ishl, 1) := by decide +kernel
theorem d_All_together_67 : decode b_All_together 67 = .ok (.ior, 1) := by decide +kernel
theorem d_All_together_68 : decode b_All_together 68 = .ok (.istore_n 3, 1) := by decide +kernel
theorem d_All_together_69 : decode b_All_together 69 = .ok (.iinc 4 1, 3) := by decide +kernel
theorem d_All_together_72 : decode b_All_together 72 = .ok (.goto (-41), 3) := by decide +kernel
theorem d_All_together_75 : decode b_All_together 75 = .ok (.iload_n 3, 1) := by decide +kernel
theorem d_All_together_76 : decode b_All_together 76 = .ok (.ireturn, 1) := by decide +kernel
theorem d_All_steps_0 : decode b_All_steps 0 = .ok (.aload_n 0, 1) := by decide +kernel
theorem d_All_steps_1 : decode b_All_steps 1 = .ok (.getfield 10, 3) := by decide +kernel
theorem d_All_steps_4 : decode b_All_steps 4 = .ok (.iload_n 1, 1) := by decide +kernel
theorem d_All_steps_5 : decode b_All_steps 5 = .ok (.invokevirtual 91, 3) := by decide +kernel
theorem d_All_steps_8 : decode b_All_steps 8 = .ok (.ifCond .eq 14, 3) := by decide +kernel
theorem d_All_steps_11 : decode b_All_steps 11 = .ok (.aload_n 0, 1) := by decide +kernel
theorem d_All_steps_12 : decode b_All_steps 12 = .ok (.getfield 10, 3) := by decide +kernel
theorem d_All_steps_15 : decode b_All_steps 15 = .ok (.iload_n 2, 1) := by decide +kernel
theorem d_All_steps_16 : decode b_All_steps 16 = .ok (.invokevirtual 91, 3) := by decide +kernel
theorem d_All_steps_19 : decode b_All_steps 19 = .ok (.ifCond .ne 9, 3) := by decide +kernel
theorem d_All_steps_22 : decode b_All_steps 22 = .ok (.aload_n 0, 1) := by decide +kernel
theorem d_All_steps_23 : decode b_All_steps 23 = .ok (.iconst (-1), 1) := by decide +kernel
theorem d_All_steps_24 : decode b_All_steps 24 = .ok (.invokevirtual 48, 3) := by decide +kernel
theorem d_All_steps_27 : decode b_All_steps 27 = .ok (.ireturn, 1) := by decide +kernel
theorem d_All_steps_28 : decode b_All_steps 28 = .ok (.aload_n 0, 1) := by decide +kernel
theorem d_All_steps_29 : decode b_All_steps 29 = .ok (.getfield 27, 3) := by decide +kernel
theorem d_All_steps_32 : decode b_All_steps 32 = .ok (.iload_n 1, 1) := by decide +kernel
theorem d_All_steps_33 : decode b_All_steps 33 = .ok (.invokevirtual 154, 3) := by decide +kernel
theorem d_All_steps_36 : decode b_All_steps 36 = .ok (.istore_n 3, 1) := by decide +kernel
theorem d_All_steps_37 : decode b_All_steps 37 = .ok (.aload_n 0, 1) := by decide +kernel
theorem d_All_steps_38 : decode b_All_steps 38 = .ok (.getfield 27, 3) := by decide +kernel
theorem d_All_steps_41 : decode b_All_steps 41 = .ok (.iload_n 2, 1) := by decide +kernel
theorem d_All_steps_42 : decode b_All_steps 42 = .ok (.invokevirtual 154, 3) := by decide +kernel
theorem d_All_steps_45 : decode b_All_steps 45 = .ok (.istore 4, 2) := by decide +kernel
theorem d_All_steps_47 : decode b_All_steps 47 = .ok (.iload_n 3, 1) := by decide +kernel
theorem d_All_steps_48 : decode b_All_steps 48 = .ok (.bipush (-9), 2) := by decide +kernel
theorem d_All_steps_50 : decode b_All_steps 50 = .ok (.if_icmp .eq 10, 3) := by decide +kernel
theorem d_All_steps_53 : decode b_All_steps 53 = .ok (.iload 4, 2) := by decide +kernel
theorem d_All_steps_55 : decode b_All_steps 55 = .ok (.bipush (-9), 2) := by decide +kernel
theorem d_All_steps_57 : decode b_All_steps 57 = .ok (.if_icmp .ne 6, 3) := by decide +kernel
theorem d_All_steps_60 : decode b_All_steps 60 = .ok (.bipush (-9), 2) := by decide +kernel
theorem d_All_steps_62 : decode b_All_steps 62 = .ok (.ireturn, 1) := by decide +kernel
theorem d_All_steps_63 : decode b_All_steps 63 = .ok (.iload_n 3, 1) := by decide +kernel
theorem d_All_steps_64 : decode b_All_steps 64 = .ok (.iload 4, 2) := by decide +kernel
theorem d_All_steps_66 : decode b_All_steps 66 = .ok (.ixor, 1) := by decide +kernel
theorem d_All_steps_67 : decode b_All_steps 67 = .ok (.invokestatic 160, 3) := by decide +kernel
theorem d_All_steps_70 : decode b_All_steps 70 = .ok (.ireturn, 1) := by decide +kernel
theorem d_All_next_0 : decode b_All_next 0 = .ok (.iload 4, 2) := by decide +kernel
theorem d_All_next_2 : decode b_All_next 2 = .ok (.iconst (-1), 1) := by decide +kernel
theorem d_All_next_3 : decode b_All_next 3 = .ok (.if_icmp .eq 21, 3) := by decide +kernel
theorem d_All_next_6 : decode b_All_next 6 = .ok (.aload_n 0, 1) := by decide +kernel
theorem d_All_next_7 : decode b_All_next 7 = .ok (.getfield 10, 3) := by decide +kernel
theorem d_All_next_10 : decode b_All_next 10 = .ok (.iload 4, 2) := by decide +kernel
theorem d_All_next_12 : decode b_All_next 12 = .ok (.invokevirtual 91, 3) := by decide +kernel
theorem d_All_next_15 : decode b_All_next 15 = .ok (.ifCond .ne 9, 3) := by decide +kernel
theorem d_All_next_18 : decode b_All_next 18 = .ok (.aload_n 0, 1) := by decide +kernel
theorem d_All_next_19 : decode b_All_next 19 = .ok (.iconst (-1), 1) := by decide +kernel
theorem d_All_next_20 : decode b_All_next 20 = .ok (.invokevirtual 48, 3) := by decide +kernel
theorem d_All_next_23 : decode b_All_next 23 = .ok (.ireturn, 1) := by decide +kernel
theorem d_All_next_24 : decode b_All_next 24 = .ok (.aload_n 0, 1) := by decide +kernel
theorem d_All_next_25 : decode b_All_next 25 = .ok (.iload_n 1, 1) := by decide +kernel
theorem d_All_next_26 : decode b_All_next 26 = .ok (.iload_n 2, 1) := by decide +kernel
theorem d_All_next_27 : decode b_All_next 27 = .ok (.iload_n 3, 1) := by decide +kernel
theorem d_All_next_28 : decode b_All_next 28 = .ok (.invokevirtual 164, 3) := by decide +kernel
theorem d_All_next_31 : decode b_All_next 31 = .ok (.istore 5, 2) := by decide +kernel
theorem d_All_next_33 : decode b_All_next 33 = .ok (.iload 5, 2) := by decide +kernel
theorem d_All_next_35 : decode b_All_next 35 = .ok (.ifCond .eq 10, 3) := by decide +kernel
theorem d_All_next_38 : decode b_All_next 38 = .ok (.aload_n 0, 1) := by decide +kernel
theorem d_All_next_39 : decode b_All_next 39 = .ok (.iload 5, 2) := by decide +kernel
theorem d_All_next_41 : decode b_All_next 41 = .ok (.invokevirtual 48, 3) := by decide +kernel
theorem d_All_next_44 : decode b_All_next 44 = .ok (.ireturn, 1) := by decide +kernel
theorem d_All_next_45 : decode b_All_next 45 = .ok (.iload 4, 2) := by decide +kernel
theorem d_All_next_47 : decode b_All_next 47 = .ok (.iconst (-1), 1) := by decide +kernel
theorem d_All_next_48 : decode b_All_next 48 = .ok (.if_icmp .ne 17, 3) := by decide +kernel
theorem d_All_next_51 : decode b_All_next 51 = .ok (.aload_n 0, 1) := by decide +kernel
theorem d_All_next_52 : decode b_All_next 52 = .ok (.getfield 27, 3) := by decide +kernel
theorem d_All_next_55 : decode b_All_next 55 = .ok (.iload_n 1, 1) := by decide +kernel
theorem d_All_next_56 : decode b_All_next 56 = .ok (.iload_n 2, 1) := by decide +kernel
theorem d_All_next_57 : decode b_All_next 57 = .ok (.iload_n 3, 1) := by decide +kernel
theorem d_All_next_58 : decode b_All_next 58 = .ok (.invokevirtual 167, 3) := by decide +kernel
theorem d_All_next_61 : decode b_All_next 61 = .ok (.invokestatic 118, 3) := by decide +kernel
theorem d_All_next_64 : decode b_All_next 64 = .ok (.ireturn, 1) := by decide +kernel
theorem d_All_next_65 : decode b_All_next 65 = .ok (.aload_n 0, 1) := by decide +kernel
theorem d_All_next_66 : decode b_All_next 66 = .ok (.getfield 27, 3) := by decide +kernel
theorem d_All_next_69 : decode b_All_next 69 = .ok (.iload 4, 2) := by decide +kernel
theorem d_All_next_71 : decode b_All_next 71 = .ok (.invokevirtual 154, 3) := by decide +kernel
theorem d_All_next_74 : decode b_All_next 74 = .ok (.istore 6, 2) := by decide +kernel
theorem d_All_next_76 : decode b_All_next 76 = .ok (.iload 6, 2) := by decide +kernel
theorem d_All_next_78 : decode b_All_next 78 = .ok (.bipush (-9), 2) := by decide +kernel
theorem d_All_next_80 : decode b_All_next 80 = .ok (.if_icmp .ne 6, 3) := by decide +kernel
theorem d_All_next_83 : decode b_All_next 83 = .ok (.bipush (-9), 2) := by decide +kernel
theorem d_All_next_85 : decode b_All_next 85 = .ok (.ireturn, 1) := by decide +kernel
theorem d_All_next_86 : decode b_All_next 86 = .ok (.aload_n 0, 1) := by decide +kernel
theorem d_All_next_87 : decode b_All_next 87 = .ok (.getfield 27, 3) := by decide +kernel
theorem d_All_next_90 : decode b_All_next 90 = .ok (.iload_n 1, 1) := by decide +kernel
theorem d_All_next_91 : decode b_All_next 91 = .ok (.iload_n 2, 1) := by decide +kernel
theorem d_All_next_92 : decode b_All_next 92 = .ok (.iload_n 3, 1) := by decide +kernel
theorem d_All_next_93 : decode b_All_next 93 = .ok (.invokevirtual 167, 3) := by decide +kernel
theorem d_All_next_96 : decode b_All_next 96 = .ok (.iload 6, 2) := by decide +kernel
theorem d_All_next_98 : decode b_All_next 98 = .ok (.invokestatic 136, 3) := by decide +kernel
theorem d_All_next_101 : decode b_All_next 101 = .ok (.ifCond .eq 7, 3) := by decide +kernel
theorem d_All_next_104 : decode b_All_next 104 = .ok (.iconst 1, 1) := by decide +kernel
theorem d_All_next_105 : decode b_All_next 105 = .ok (.goto 4, 3) := by decide +kernel
theorem d_All_next_108 : decode b_All_next 108 = .ok (.iconst 0, 1) := by decide +kernel
theorem d_All_next_109 : decode b_All_next 109 = .ok (.ireturn, 1) := by decide +kernel
theorem d_All_through_0 : decode b_All_through 0 = .ok (.aload_n 0, 1) := by decide +kernel
theorem d_All_through_1 : decode b_All_through 1 = .ok (.getfield 10, 3) := by decide +kernel
theorem d_All_through_4 : decode b_All_through 4 = .ok (.iload_n 3, 1) := by decide +kernel
theorem d_All_through_5 : decode b_All_through 5 = .ok (.invokevirtual 91, 3) := by decide +kernel
theorem d_All_through_8 : decode b_All_through 8 = .ok (.ifCond .ne 9, 3) := by decide +kernel
theorem d_All_through_11 : decode b_All_through 11 = .ok (.aload_n 0, 1) := by decide +kernel
theorem d_All_through_12 : decode b_All_through 12 = .ok (.iconst (-1), 1) := by decide +kernel
theorem d_All_through_13 : decode b_All_through 13 = .ok (.invokevirtual 73, 3) := by decide +kernel
theorem d_All_through_16 : decode b_All_through 16 = .ok (.ireturn, 1) := by decide +kernel
theorem d_All_through_17 : decode b_All_through 17 = .ok (.aload_n 0, 1) := by decide +kernel
theorem d_All_through_18 : decode b_All_through 18 = .ok (.iload_n 1, 1) := by decide +kernel
theorem d_All_through_19 : decode b_All_through 19 = .ok (.iload_n 2, 1) := by decide +kernel
theorem d_All_through_20 : decode b_All_through 20 = .ok (.iconst 0, 1) := by decide +kernel
theorem d_All_through_21 : decode b_All_through 21 = .ok (.invokevirtual 171, 3) := by decide +kernel
theorem d_All_through_24 : decode b_All_through 24 = .ok (.istore 4, 2) := by decide +kernel
theorem d_All_through_26 : decode b_All_through 26 = .ok (.iload 4, 2) := by decide +kernel
theorem d_All_through_28 : decode b_All_through 28 = .ok (.ifCond .eq 10, 3) := by decide +kernel
theorem d_All_through_31 : decode b_All_through 31 = .ok (.aload_n 0, 1) := by decide +kernel
theorem d_All_through_32 : decode b_All_through 32 = .ok (.iload 4, 2) := by decide +kernel
theorem d_All_through_34 : decode b_All_through 34 = .ok (.invokevirtual 73, 3) := by decide +kernel
theorem d_All_through_37 : decode b_All_through 37 = .ok (.ireturn, 1) := by decide +kernel
theorem d_All_through_38 : decode b_All_through 38 = .ok (.iload_n 1, 1) := by decide +kernel
theorem d_All_through_39 : decode b_All_through 39 = .ok (.aload_n 0, 1) := by decide +kernel
theorem d_All_through_40 : decode b_All_through 40 = .ok (.getfield 10, 3) := by decide +kernel
theorem d_All_through_43 : decode b_All_through 43 = .ok (.getfield 94, 3) := by decide +kernel
theorem d_All_through_46 : decode b_All_through 46 = .ok (.iload_n 3, 1) := by decide +kernel
theorem d_All_through_47 : decode b_All_through 47 = .ok (.iaload, 1) := by decide +kernel
theorem d_All_through_48 : decode b_All_through 48 = .ok (.imul, 1) := by decide +kernel
theorem d_All_through_49 : decode b_All_through 49 = .ok (.iload_n 2, 1) := by decide +kernel
theorem d_All_through_50 : decode b_All_through 50 = .ok (.aload_n 0, 1) := by decide +kernel
theorem d_All_through_51 : decode b_All_through 51 = .ok (.getfield 10, 3) := by decide +kernel
theorem d_All_through_54 : decode b_All_through 54 = .ok (.getfield 97, 3) := by decide +kernel
theorem d_All_through_57 : decode b_All_through 57 = .ok (.iload_n 3, 1) := by decide +kernel
theorem d_All_through_58 : decode b_All_through 58 = .ok (.iaload, 1) := by decide +kernel
theorem d_All_through_59 : decode b_All_through 59 = .ok (.imul, 1) := by decide +kernel
theorem d_All_through_60 : decode b_All_through 60 = .ok (.iadd, 1) := by decide +kernel
theorem d_All_through_61 : decode b_All_through 61 = .ok (.ireturn, 1) := by decide +kernel
theorem d_All_spare_0 : decode b_All_spare 0 = .ok (.aload_n 0, 1) := by decide +kernel
theorem d_All_spare_1 : decode b_All_spare 1 = .ok (.iload_n 1, 1) := by decide +kernel
theorem d_All_spare_2 : decode b_All_spare 2 = .ok (.iload_n 2, 1) := by decide +kernel
theorem d_All_spare_3 : decode b_All_spare 3 = .ok (.iconst 0, 1) := by decide +kernel
theorem d_All_spare_4 : decode b_All_spare 4 = .ok (.invokevirtual 164, 3) := by decide +kernel
theorem d_All_spare_7 : decode b_All_spare 7 = .ok (.istore_n 3, 1) := by decide +kernel
theorem d_All_spare_8 : decode b_All_spare 8 = .ok (.iload_n 3, 1) := by decide +kernel
theorem d_All_spare_9 : decode b_All_spare 9 = .ok (.ifCond .eq 9, 3) := by decide +kernel
theorem d_All_spare_12 : decode b_All_spare 12 = .ok (.aload_n 0, 1) := by decide +kernel
theorem d_All_spare_13 : decode b_All_spare 13 = .ok (.iload_n 3, 1) := by decide +kernel
theorem d_All_spare_14 : decode b_All_spare 14 = .ok (.invokevirtual 73, 3) := by decide +kernel
theorem d_All_spare_17 : decode b_All_spare 17 = .ok (.ireturn, 1) := by decide +kernel
theorem d_All_spare_18 : decode b_All_spare 18 = .ok (.aload_n 0, 1) := by decide +kernel
theorem d_All_spare_19 : decode b_All_spare 19 = .ok (.getfield 27, 3) := by decide +kernel
theorem d_All_spare_22 : decode b_All_spare 22 = .ok (.invokevirtual 174, 3) := by decide +kernel
theorem d_All_spare_25 : decode b_All_spare 25 = .ok (.lstore 4, 2) := by decide +kernel
theorem d_All_spare_27 : decode b_All_spare 27 = .ok (.bipush (-99), 2) := by decide +kernel
theorem d_All_spare_29 : decode b_All_spare 29 = .ok (.istore 6, 2) := by decide +kernel
theorem d_All_spare_31 : decode b_All_spare 31 = .ok (.iload 6, 2) := by decide +kernel
theorem d_All_spare_33 : decode b_All_spare 33 = .ok (.bipush 99, 2) := by decide +kernel
theorem d_All_spare_35 : decode b_All_spare 35 = .ok (.if_icmp .gt 45, 3) := by decide +kernel
theorem d_All_spare_38 : decode b_All_spare 38 = .ok (.aload_n 0, 1) := by decide +kernel
theorem d_All_spare_39 : decode b_All_spare 39 = .ok (.getfield 10, 3) := by decide +kernel
theorem d_All_spare_42 : decode b_All_spare 42 = .ok (.iload_n 1, 1) := by decide +kernel
theorem d_All_spare_43 : decode b_All_spare 43 = .ok (.iload_n 2, 1) := by decide +kernel
theorem d_All_spare_44 : decode b_All_spare 44 = .ok (.iload 6, 2) := by decide +kernel
theorem d_All_spare_46 : decode b_All_spare 46 = .ok (.invokevirtual 178, 3) := by decide +kernel
theorem d_All_spare_49 : decode b_All_spare 49 = .ok (.ifCond .ne 25, 3) := by decide +kernel
theorem d_All_spare_52 : decode b_All_spare 52 = .ok (.aload_n 0, 1) := by decide +kernel
theorem d_All_spare_53 : decode b_All_spare 53 = .ok (.getfield 27, 3) := by decide +kernel
theorem d_All_spare_56 : decode b_All_spare 56 = .ok (.iload_n 1, 1) := by decide +kernel
theorem d_All_spare_57 : decode b_All_spare 57 = .ok (.iload_n 2, 1) := by decide +kernel
theorem d_All_spare_58 : decode b_All_spare 58 = .ok (.iload 6, 2) := by decide +kernel
theorem d_All_spare_60 : decode b_All_spare 60 = .ok (.invokevirtual 167, 3) := by decide +kernel
theorem d_All_spare_63 : decode b_All_spare 63 = .ok (.lload 4, 2) := by decide +kernel
theorem d_All_spare_65 : decode b_All_spare 65 = .ok (.land, 1) := by decide +kernel
theorem d_All_spare_66 : decode b_All_spare 66 = .ok (.lconst 0, 1) := by decide +kernel
theorem d_All_spare_67 : decode b_All_spare 67 = .ok (.lcmp, 1) := by decide +kernel
theorem d_All_spare_68 : decode b_All_spare 68 = .ok (.ifCond .ne 6, 3) := by decide +kernel
theorem d_All_spare_71 : decode b_All_spare 71 = .ok (.iload 6, 2) := by decide +kernel
theorem d_All_spare_73 : decode b_All_spare 73 = .ok (.ireturn, 1) := by decide +kernel
theorem d_All_spare_74 : decode b_All_spare 74 = .ok (.iinc 6 1, 3) := by decide +kernel
theorem d_All_spare_77 : decode b_All_spare 77 = .ok (.goto (-46), 3) := by decide +kernel
theorem d_All_spare_80 : decode b_All_spare 80 = .ok (.sipush (-999), 3) := by decide +kernel
theorem d_All_spare_83 : decode b_All_spare 83 = .ok (.ireturn, 1) := by decide +kernel
theorem d_All_most_0 : decode b_All_most 0 = .ok (.aload_n 0, 1) := by decide +kernel
theorem d_All_most_1 : decode b_All_most 1 = .ok (.iload_n 1, 1) := by decide +kernel
theorem d_All_most_2 : decode b_All_most 2 = .ok (.iload_n 2, 1) := by decide +kernel
theorem d_All_most_3 : decode b_All_most 3 = .ok (.iconst 0, 1) := by decide +kernel
theorem d_All_most_4 : decode b_All_most 4 = .ok (.invokevirtual 164, 3) := by decide +kernel
theorem d_All_most_7 : decode b_All_most 7 = .ok (.istore_n 3, 1) := by decide +kernel
theorem d_All_most_8 : decode b_All_most 8 = .ok (.iload_n 3, 1) := by decide +kernel
theorem d_All_most_9 : decode b_All_most 9 = .ok (.ifCond .eq 9, 3) := by decide +kernel
theorem d_All_most_12 : decode b_All_most 12 = .ok (.aload_n 0, 1) := by decide +kernel
theorem d_All_most_13 : decode b_All_most 13 = .ok (.iload_n 3, 1) := by decide +kernel
theorem d_All_most_14 : decode b_All_most 14 = .ok (.invokevirtual 48, 3) := by decide +kernel
theorem d_All_most_17 : decode b_All_most 17 = .ok (.ireturn, 1) := by decide +kernel
theorem d_All_most_18 : decode b_All_most 18 = .ok (.iconst 0, 1) := by decide +kernel
theorem d_All_most_19 : decode b_All_most 19 = .ok (.istore 4, 2) := by decide +kernel
theorem d_All_most_21 : decode b_All_most 21 = .ok (.bipush (-99), 2) := by decide +kernel
theorem d_All_most_23 : decode b_All_most 23 = .ok (.istore 5, 2) := by decide +kernel
theorem d_All_most_25 : decode b_All_most 25 = .ok (.iload 5, 2) := by decide +kernel
theorem d_All_most_27 : decode b_All_most 27 = .ok (.bipush 99, 2) := by decide +kernel
theorem d_All_most_29 : decode b_All_most 29 = .ok (.if_icmp .gt 27, 3) := by decide +kernel
theorem d_All_most_32 : decode b_All_most 32 = .ok (.iload 4, 2) := by decide +kernel
theorem d_All_most_34 : decode b_All_most 34 = .ok (.aload_n 0, 1) := by decide +kernel
theorem d_All_most_35 : decode b_All_most 35 = .ok (.getfield 27, 3) := by decide +kernel
theorem d_All_most_38 : decode b_All_most 38 = .ok (.iload_n 1, 1) := by decide +kernel
theorem d_All_most_39 : decode b_All_most 39 = .ok (.iload_n 2, 1) := by decide +kernel
theorem d_All_most_40 : decode b_All_most 40 = .ok (.iload 5, 2) := by decide +kernel
theorem d_All_most_42 : decode b_All_most 42 = .ok (.invokevirtual 182, 3) := by decide +kernel
theorem d_All_most_45 : decode b_All_most 45 = .ok (.invokestatic 185, 3) := by decide +kernel
theorem d_All_most_48 : decode b_All_most 48 = .ok (.istore 4, 2) := by decide +kernel
theorem d_All_most_50 : decode b_All_most 50 = .ok (.iinc 5 1, 3) := by decide +kernel
theorem d_All_most_53 : decode b_All_most 53 = .ok (.goto (-28), 3) := by decide +kernel
theorem d_All_most_56 : decode b_All_most 56 = .ok (.iload 4, 2) := by decide +kernel
theorem d_All_most_58 : decode b_All_most 58 = .ok (.ireturn, 1) := by decide +kernel
theorem d_All_fear_0 : decode b_All_fear 0 = .ok (.aload_n 0, 1) := by decide +kernel
theorem d_All_fear_1 : decode b_All_fear 1 = .ok (.getfield 10, 3) := by decide +kernel
theorem d_All_fear_4 : decode b_All_fear 4 = .ok (.iload_n 1, 1) := by decide +kernel
theorem d_All_fear_5 : decode b_All_fear 5 = .ok (.invokevirtual 91, 3) := by decide +kernel
theorem d_All_fear_8 : decode b_All_fear 8 = .ok (.ifCond .ne 9, 3) := by decide +kernel
theorem d_All_fear_11 : decode b_All_fear 11 = .ok (.aload_n 0, 1) := by decide +kernel
theorem d_All_fear_12 : decode b_All_fear 12 = .ok (.iconst (-1), 1) := by decide +kernel
theorem d_All_fear_13 : decode b_All_fear 13 = .ok (.invokevirtual 48, 3) := by decide +kernel
theorem d_All_fear_16 : decode b_All_fear 16 = .ok (.ireturn, 1) := by decide +kernel
theorem d_All_fear_17 : decode b_All_fear 17 = .ok (.iload_n 2, 1) := by decide +kernel
theorem d_All_fear_18 : decode b_All_fear 18 = .ok (.ifCond .eq 15, 3) := by decide +kernel
theorem d_All_fear_21 : decode b_All_fear 21 = .ok (.iload_n 2, 1) := by decide +kernel
theorem d_All_fear_22 : decode b_All_fear 22 = .ok (.iconst 1, 1) := by decide +kernel
theorem d_All_fear_23 : decode b_All_fear 23 = .ok (.if_icmp .eq 10, 3) := by decide +kernel
theorem d_All_fear_26 : decode b_All_fear 26 = .ok (.aload_n 0, 1) := by decide +kernel
theorem d_All_fear_27 : decode b_All_fear 27 = .ok (.bipush (-2), 2) := by decide +kernel
theorem d_All_fear_29 : decode b_All_fear 29 = .ok (.invokevirtual 48, 3) := by decide +kernel
theorem d_All_fear_32 : decode b_All_fear 32 = .ok (.ireturn, 1) := by decide +kernel
theorem d_All_fear_33 : decode b_All_fear 33 = .ok (.aload_n 0, 1) := by decide +kernel
theorem d_All_fear_34 : decode b_All_fear 34 = .ok (.getfield 27, 3) := by decide +kernel
theorem d_All_fear_37 : decode b_All_fear 37 = .ok (.iload_n 1, 1) := by decide +kernel
theorem d_All_fear_38 : decode b_All_fear 38 = .ok (.invokevirtual 154, 3) := by decide +kernel
theorem d_All_fear_41 : decode b_All_fear 41 = .ok (.istore_n 3, 1) := by decide +kernel
theorem d_All_fear_42 : decode b_All_fear 42 = .ok (.iload_n 2, 1) := by decide +kernel
theorem d_All_fear_43 : decode b_All_fear 43 = .ok (.ifCond .ne 12, 3) := by decide +kernel
theorem d_All_fear_46 : decode b_All_fear 46 = .ok (.iload_n 3, 1) := by decide +kernel
theorem d_All_fear_47 : decode b_All_fear 47 = .ok (.bipush (-9), 2) := by decide +kernel
theorem d_All_fear_49 : decode b_All_fear 49 = .ok (.if_icmp .ne 6, 3) := by decide +kernel
theorem d_All_fear_52 : decode b_All_fear 52 = .ok (.bipush (-9), 2) := by decide +kernel
theorem d_All_fear_54 : decode b_All_fear 54 = .ok (.ireturn, 1) := by decide +kernel
theorem d_All_fear_55 : decode b_All_fear 55 = .ok (.iconst 0, 1) := by decide +kernel
theorem d_All_fear_56 : decode b_All_fear 56 = .ok (.istore 4, 2) := by decide +kernel
theorem d_All_fear_58 : decode b_All_fear 58 = .ok (.iconst 0, 1) := by decide +kernel
theorem d_All_fear_59 : decode b_All_fear 59 = .ok (.istore 5, 2) := by decide +kernel
theorem d_All_fear_61 : decode b_All_fear 61 = .ok (.iconst 0, 1) := by decide +kernel
theorem d_All_fear_62 : decode b_All_fear 62 = .ok (.istore 6, 2) := by decide +kernel
theorem d_All_fear_64 : decode b_All_fear 64 = .ok (.iload 6, 2) := by decide +kernel
theorem d_All_fear_66 : decode b_All_fear 66 = .ok (.iconst 2, 1) := by decide +kernel
theorem d_All_fear_67 : decode b_All_fear 67 = .ok (.if_icmp .gt 62, 3) := by decide +kernel
theorem d_All_fear_70 : decode b_All_fear 70 = .ok (.bipush (-2), 2) := by decide +kernel
theorem d_All_fear_72 : decode b_All_fear 72 = .ok (.istore 7, 2) := by decide +kernel
theorem d_All_fear_74 : decode b_All_fear 74 = .ok (.iload 7, 2) := by decide +kernel
theorem d_All_fear_76 : decode b_All_fear 76 = .ok (.iconst 2, 1) := by decide +kernel
theorem d_All_fear_77 : decode b_All_fear 77 = .ok (.if_icmp .gt 46, 3) := by decide +kernel
theorem d_All_fear_80 : decode b_All_fear 80 = .ok (.aload_n 0, 1) := by decide +kernel
theorem d_All_fear_81 : decode b_All_fear 81 = .ok (.iload 6, 2) := by decide +kernel
theorem d_All_fear_83 : decode b_All_fear 83 = .ok (.iload 7, 2) := by decide +kernel
theorem d_All_fear_85 : decode b_All_fear 85 = .ok (.iconst 0, 1) := by decide +kernel
theorem d_All_fear_86 : decode b_All_fear 86 = .ok (.invokevirtual 164, 3) := by decide +kernel
theorem d_All_fear_89 : decode b_All_fear 89 = .ok (.ifCond .ne 28, 3) := by decide +kernel
theorem d_All_fear_92 : decode b_All_fear 92 = .ok (.iinc 4 19, 3) := by decide +kernel
theorem d_All_fear_95 : decode b_All_fear 95 = .ok (.iload 5, 2) := by decide +kernel
theorem d_All_fear_97 : decode b_All_fear 97 = .ok (.iload_n 2, 1) := by decide +kernel
theorem d_All_fear_98 : decode b_All_fear 98 = .ok (.ifCond .ne 15, 3) := by decide +kernel
theorem d_All_fear_101 : decode b_All_fear 101 = .ok (.aload_n 0, 1) := by decide +kernel
theorem d_All_fear_102 : decode b_All_fear 102 = .ok (.iload 6, 2) := by decide +kernel
theorem d_All_fear_104 : decode b_All_fear 104 = .ok (.iload 7, 2) := by decide +kernel
theorem d_All_fear_106 : decode b_All_fear 106 = .ok (.iload_n 3, 1) := by decide +kernel
theorem d_All_fear_107 : decode b_All_fear 107 = .ok (.invokevirtual 190, 3) := by decide +kernel
theorem d_All_fear_110 : decode b_All_fear 110 = .ok (.goto 4, 3) := by decide +kernel
theorem d_All_fear_113 : decode b_All_fear 113 = .ok (.iconst 0, 1) := by decide +kernel
theorem d_All_fear_114 : decode b_All_fear 114 = .ok (.iadd, 1) := by decide +kernel
theorem d_All_fear_115 : decode b_All_fear 115 = .ok (.istore 5, 2) := by decide +kernel
theorem d_All_fear_117 : decode b_All_fear 117 = .ok (.iinc 7 1, 3) := by decide +kernel
theorem d_All_fear_120 : decode b_All_fear 120 = .ok (.goto (-46), 3) := by decide +kernel
theorem d_All_fear_123 : decode b_All_fear 123 = .ok (.iinc 6 1, 3) := by decide +kernel
theorem d_All_fear_126 : decode b_All_fear 126 = .ok (.goto (-62), 3) := by decide +kernel
theorem d_All_fear_129 : decode b_All_fear 129 = .ok (.iload_n 2, 1) := by decide +kernel
theorem d_All_fear_130 : decode b_All_fear 130 = .ok (.ifCond .ne 8, 3) := by decide +kernel
theorem d_All_fear_133 : decode b_All_fear 133 = .ok (.iload 5, 2) := by decide +kernel
theorem d_All_fear_135 : decode b_All_fear 135 = .ok (.goto 5, 3) := by decide +kernel
theorem d_All_fear_138 : decode b_All_fear 138 = .ok (.iload 4, 2) := by decide +kernel
theorem d_All_fear_140 : decode b_All_fear 140 = .ok (.ireturn, 1) := by decide +kernel
theorem d_All_taken_0 : decode b_All_taken 0 = .ok (.iload_n 1, 1) := by decide +kernel
theorem d_All_taken_1 : decode b_All_taken 1 = .ok (.iconst (-1), 1) := by decide +kernel
theorem d_All_taken_2 : decode b_All_taken 2 = .ok (.if_icmp .ne 8, 3) := by decide +kernel
theorem d_All_taken_5 : decode b_All_taken 5 = .ok (.aload_n 0, 1) := by decide +kernel
theorem d_All_taken_6 : decode b_All_taken 6 = .ok (.invokevirtual 193, 3) := by decide +kernel
theorem d_All_taken_9 : decode b_All_taken 9 = .ok (.ireturn, 1) := by decide +kernel
theorem d_All_taken_10 : decode b_All_taken 10 = .ok (.aload_n 0, 1) := by decide +kernel
theorem d_All_taken_11 : decode b_All_taken 11 = .ok (.getfield 10, 3) := by decide +kernel
theorem d_All_taken_14 : decode b_All_taken 14 = .ok (.iload_n 1, 1) := by decide +kernel
theorem d_All_taken_15 : decode b_All_taken 15 = .ok (.invokevirtual 69, 3) := by decide +kernel
theorem d_All_taken_18 : decode b_All_taken 18 = .ok (.ifCond .eq 14, 3) := by decide +kernel
theorem d_All_taken_21 : decode b_All_taken 21 = .ok (.aload_n 0, 1) := by decide +kernel
theorem d_All_taken_22 : decode b_All_taken 22 = .ok (.getfield 27, 3) := by decide +kernel
theorem d_All_taken_25 : decode b_All_taken 25 = .ok (.iload_n 1, 1) := by decide +kernel
theorem d_All_taken_26 : decode b_All_taken 26 = .ok (.invokevirtual 196, 3) := by decide +kernel
theorem d_All_taken_29 : decode b_All_taken 29 = .ok (.goto 8, 3) := by decide +kernel
theorem d_All_taken_32 : decode b_All_taken 32 = .ok (.aload_n 0, 1) := by decide +kernel
theorem d_All_taken_33 : decode b_All_taken 33 = .ok (.iconst (-1), 1) := by decide +kernel
theorem d_All_taken_34 : decode b_All_taken 34 = .ok (.invokevirtual 48, 3) := by decide +kernel
theorem d_All_taken_37 : decode b_All_taken 37 = .ok (.ireturn, 1) := by decide +kernel
theorem d_All_row_0 : decode b_All_row 0 = .ok (.iload_n 1, 1) := by decide +kernel
theorem d_All_row_1 : decode b_All_row 1 = .ok (.ifCond .ge 10, 3) := by decide +kernel
theorem d_All_row_4 : decode b_All_row 4 = .ok (.aload_n 0, 1) := by decide +kernel
theorem d_All_row_5 : decode b_All_row 5 = .ok (.bipush (-4), 2) := by decide +kernel
theorem d_All_row_7 : decode b_All_row 7 = .ok (.invokevirtual 48, 3) := by decide +kernel
theorem d_All_row_10 : decode b_All_row 10 = .ok (.ireturn, 1) := by decide +kernel
theorem d_All_row_11 : decode b_All_row 11 = .ok (.iload_n 1, 1) := by decide +kernel
theorem d_All_row_12 : decode b_All_row 12 = .ok (.bipush 64, 2) := by decide +kernel
theorem d_All_row_14 : decode b_All_row 14 = .ok (.if_icmp .ge 15, 3) := by decide +kernel
theorem d_All_row_17 : decode b_All_row 17 = .ok (.aload_n 0, 1) := by decide +kernel
theorem d_All_row_18 : decode b_All_row 18 = .ok (.getfield 199, 3) := by decide +kernel
theorem d_All_row_21 : decode b_All_row 21 = .ok (.aload_n 0, 1) := by decide +kernel
theorem d_All_row_22 : decode b_All_row 22 = .ok (.getfield 38, 3) := by decide +kernel
theorem d_All_row_25 : decode b_All_row 25 = .ok (.arraylength, 1) := by decide +kernel
theorem d_All_row_26 : decode b_All_row 26 = .ok (.if_icmp .lt 10, 3) := by decide +kernel
theorem d_All_row_29 : decode b_All_row 29 = .ok (.aload_n 0, 1) := by decide +kernel
theorem d_All_row_30 : decode b_All_row 30 = .ok (.bipush (-6), 2) := by decide +kernel
theorem d_All_row_32 : decode b_All_row 32 = .ok (.invokevirtual 48, 3) := by decide +kernel
theorem d_All_row_35 : decode b_All_row 35 = .ok (.ireturn, 1) := by decide +kernel
theorem d_All_row_36 : decode b_All_row 36 = .ok (.aload_n 0, 1) := by decide +kernel
theorem d_All_row_37 : decode b_All_row 37 = .ok (.getfield 38, 3) := by decide +kernel
theorem d_All_row_40 : decode b_All_row 40 = .ok (.aload_n 0, 1) := by decide +kernel
theorem d_All_row_41 : decode b_All_row 41 = .ok (.getfield 199, 3) := by decide +kernel
theorem d_All_row_44 : decode b_All_row 44 = .ok (.iload_n 1, 1) := by decide +kernel
theorem d_All_row_45 : decode b_All_row 45 = .ok (.iastore, 1) := by decide +kernel
theorem d_All_row_46 : decode b_All_row 46 = .ok (.aload_n 0, 1) := by decide +kernel
theorem d_All_row_47 : decode b_All_row 47 = .ok (.dup, 1) := by decide +kernel
theorem d_All_row_48 : decode b_All_row 48 = .ok (.getfield 199, 3) := by decide +kernel
theorem d_All_row_51 : decode b_All_row 51 = .ok (.iconst 1, 1) := by decide +kernel
theorem d_All_row_52 : decode b_All_row 52 = .ok (.iadd, 1) := by decide +kernel
theorem d_All_row_53 : decode b_All_row 53 = .ok (.putfield 199, 3) := by decide +kernel
theorem d_All_row_56 : decode b_All_row 56 = .ok (.aload_n 0, 1) := by decide +kernel
theorem d_All_row_57 : decode b_All_row 57 = .ok (.getfield 199, 3) := by decide +kernel
theorem d_All_row_60 : decode b_All_row 60 = .ok (.ireturn, 1) := by decide +kernel
theorem d_All_judge_0 : decode b_All_judge 0 = .ok (.aload_n 0, 1) := by decide +kernel
theorem d_All_judge_1 : decode b_All_judge 1 = .ok (.getfield 199, 3) := by decide +kernel
theorem d_All_judge_4 : decode b_All_judge 4 = .ok (.istore_n 1, 1) := by decide +kernel
theorem d_All_judge_5 : decode b_All_judge 5 = .ok (.aload_n 0, 1) := by decide +kernel
theorem d_All_judge_6 : decode b_All_judge 6 = .ok (.iconst 0, 1) := by decide +kernel
theorem d_All_judge_7 : decode b_All_judge 7 = .ok (.putfield 199, 3) := by decide +kernel
theorem d_All_judge_10 : decode b_All_judge 10 = .ok (.iconst 0, 1) := by decide +kernel
theorem d_All_judge_11 : decode b_All_judge 11 = .ok (.istore_n 2, 1) := by decide +kernel
theorem d_All_judge_12 : decode b_All_judge 12 = .ok (.iload_n 2, 1) := by decide +kernel
theorem d_All_judge_13 : decode b_All_judge 13 = .ok (.iload_n 1, 1) := by decide +kernel
theorem d_All_judge_14 : decode b_All_judge 14 = .ok (.if_icmp .ge 55, 3) := by decide +kernel
theorem d_All_judge_17 : decode b_All_judge 17 = .ok (.aload_n 0, 1) := by decide +kernel
theorem d_All_judge_18 : decode b_All_judge 18 = .ok (.getfield 27, 3) := by decide +kernel
theorem d_All_judge_21 : decode b_All_judge 21 = .ok (.aload_n 0, 1) := by decide +kernel
theorem d_All_judge_22 : decode b_All_judge 22 = .ok (.getfield 38, 3) := by decide +kernel
theorem d_All_judge_25 : decode b_All_judge 25 = .ok (.iload_n 2, 1) := by decide +kernel
theorem d_All_judge_26 : decode b_All_judge 26 = .ok (.iaload, 1) := by decide +kernel
theorem d_All_judge_27 : decode b_All_judge 27 = .ok (.invokevirtual 127, 3) := by decide +kernel
theorem d_All_judge_30 : decode b_All_judge 30 = .ok (.ifCond .ne 5, 3) := by decide +kernel
theorem d_All_judge_33 : decode b_All_judge 33 = .ok (.iload_n 2, 1) := by decide +kernel
theorem d_All_judge_34 : decode b_All_judge 34 = .ok (.ireturn, 1) := by decide +kernel
theorem d_All_judge_35 : decode b_All_judge 35 = .ok (.iload_n 2, 1) := by decide +kernel
theorem d_All_judge_36 : decode b_All_judge 36 = .ok (.ifCond .le 27, 3) := by decide +kernel
theorem d_All_judge_39 : decode b_All_judge 39 = .ok (.aload_n 0, 1) := by decide +kernel
theorem d_All_judge_40 : decode b_All_judge 40 = .ok (.getfield 38, 3) := by decide +kernel
theorem d_All_judge_43 : decode b_All_judge 43 = .ok (.iload_n 2, 1) := by decide +kernel
theorem d_All_judge_44 : decode b_All_judge 44 = .ok (.iaload, 1) := by decide +kernel
theorem d_All_judge_45 : decode b_All_judge 45 = .ok (.aload_n 0, 1) := by decide +kernel
theorem d_All_judge_46 : decode b_All_judge 46 = .ok (.getfield 38, 3) := by decide +kernel
theorem d_All_judge_49 : decode b_All_judge 49 = .ok (.iload_n 2, 1) := by decide +kernel
theorem d_All_judge_50 : decode b_All_judge 50 = .ok (.iconst 1, 1) := by decide +kernel
theorem d_All_judge_51 : decode b_All_judge 51 = .ok (.isub, 1) := by decide +kernel
theorem d_All_judge_52 : decode b_All_judge 52 = .ok (.iaload, 1) := by decide +kernel
theorem d_All_judge_53 : decode b_All_judge 53 = .ok (.ixor, 1) := by decide +kernel
theorem d_All_judge_54 : decode b_All_judge 54 = .ok (.invokestatic 160, 3) := by decide +kernel
theorem d_All_judge_57 : decode b_All_judge 57 = .ok (.iconst 1, 1) := by decide +kernel
theorem d_All_judge_58 : decode b_All_judge 58 = .ok (.if_icmp .eq 5, 3) := by decide +kernel
theorem d_All_judge_61 : decode b_All_judge 61 = .ok (.iload_n 2, 1) := by decide +kernel
theorem d_All_judge_62 : decode b_All_judge 62 = .ok (.ireturn, 1) := by decide +kernel
theorem d_All_judge_63 : decode b_All_judge 63 = .ok (.iinc 2 1, 3) := by decide +kernel
theorem d_All_judge_66 : decode b_All_judge 66 = .ok (.goto (-54), 3) := by decide +kernel
theorem d_All_judge_69 : decode b_All_judge 69 = .ok (.bipush (-9), 2) := by decide +kernel
theorem d_All_judge_71 : decode b_All_judge 71 = .ok (.ireturn, 1) := by decide +kernel
theorem d_All_seeds_0 : decode b_All_seeds 0 = .ok (.iload_n 1, 1) := by decide +kernel
theorem d_All_seeds_1 : decode b_All_seeds 1 = .ok (.iconst 1, 1) := by decide +kernel
theorem d_All_seeds_2 : decode b_All_seeds 2 = .ok (.if_icmp .ge 10, 3) := by decide +kernel
theorem d_All_seeds_5 : decode b_All_seeds 5 = .ok (.aload_n 0, 1) := by decide +kernel
theorem d_All_seeds_6 : decode b_All_seeds 6 = .ok (.bipush (-4), 2) := by decide +kernel
theorem d_All_seeds_8 : decode b_All_seeds 8 = .ok (.invokevirtual 48, 3) := by decide +kernel
theorem d_All_seeds_11 : decode b_All_seeds 11 = .ok (.ireturn, 1) := by decide +kernel
theorem d_All_seeds_12 : decode b_All_seeds 12 = .ok (.iload_n 1, 1) := by decide +kernel
theorem d_All_seeds_13 : decode b_All_seeds 13 = .ok (.bipush 30, 2) := by decide +kernel
theorem d_All_seeds_15 : decode b_All_seeds 15 = .ok (.if_icmp .le 10, 3) := by decide +kernel
theorem d_All_seeds_18 : decode b_All_seeds 18 = .ok (.aload_n 0, 1) := by decide +kernel
theorem d_All_seeds_19 : decode b_All_seeds 19 = .ok (.bipush (-6), 2) := by decide +kernel
theorem d_All_seeds_21 : decode b_All_seeds 21 = .ok (.invokevirtual 48, 3) := by decide +kernel
theorem d_All_seeds_24 : decode b_All_seeds 24 = .ok (.ireturn, 1) := by decide +kernel
theorem d_All_seeds_25 : decode b_All_seeds 25 = .ok (.iload_n 2, 1) := by decide +kernel
theorem d_All_seeds_26 : decode b_All_seeds 26 = .ok (.istore_n 3, 1) := by decide +kernel
theorem d_All_seeds_27 : decode b_All_seeds 27 = .ok (.lconst 0, 1) := by decide +kernel
theorem d_All_seeds_28 : decode b_All_seeds 28 = .ok (.lstore 4, 2) := by decide +kernel
theorem d_All_seeds_30 : decode b_All_seeds 30 = .ok (.iconst 0, 1) := by decide +kernel
theorem d_All_seeds_31 : decode b_All_seeds 31 = .ok (.istore 6, 2) := by decide +kernel
theorem d_All_seeds_33 : decode b_All_seeds 33 = .ok (.iload 6, 2) := by decide +kernel
theorem d_All_seeds_35 : decode b_All_seeds 35 = .ok (.iload_n 1, 1) := by decide +kernel
theorem d_All_seeds_36 : decode b_All_seeds 36 = .ok (.if_icmp .ge 60, 3) := by decide +kernel
theorem d_All_seeds_39 : decode b_All_seeds 39 = .ok (.iload_n 3, 1) := by decide +kernel
theorem d_All_seeds_40 : decode b_All_seeds 40 = .ok (.invokestatic 202, 3) := by decide +kernel
theorem d_All_seeds_43 : decode b_All_seeds 43 = .ok (.istore_n 3, 1) := by decide +kernel
theorem d_All_seeds_44 : decode b_All_seeds 44 = .ok (.iload_n 3, 1) := by decide +kernel
theorem d_All_seeds_45 : decode b_All_seeds 45 = .ok (.invokestatic 205, 3) := by decide +kernel
theorem d_All_seeds_48 : decode b_All_seeds 48 = .ok (.istore 7, 2) := by decide +kernel
theorem d_All_seeds_50 : decode b_All_seeds 50 = .ok (.iload_n 3, 1) := by decide +kernel
theorem d_All_seeds_51 : decode b_All_seeds 51 = .ok (.invokestatic 202, 3) := by decide +kernel
theorem d_All_seeds_54 : decode b_All_seeds 54 = .ok (.istore_n 3, 1) := by decide +kernel
theorem d_All_seeds_55 : decode b_All_seeds 55 = .ok (.iload_n 3, 1) := by decide +kernel
theorem d_All_seeds_56 : decode b_All_seeds 56 = .ok (.invokestatic 205, 3) := by decide +kernel
theorem d_All_seeds_59 : decode b_All_seeds 59 = .ok (.istore 8, 2) := by decide +kernel
theorem d_All_seeds_61 : decode b_All_seeds 61 = .ok (.aload_n 0, 1) := by decide +kernel
theorem d_All_seeds_62 : decode b_All_seeds 62 = .ok (.getfield 27, 3) := by decide +kernel
theorem d_All_seeds_65 : decode b_All_seeds 65 = .ok (.iload 7, 2) := by decide +kernel
theorem d_All_seeds_67 : decode b_All_seeds 67 = .ok (.iload 8, 2) := by decide +kernel
theorem d_All_seeds_69 : decode b_All_seeds 69 = .ok (.invokevirtual 208, 3) := by decide +kernel
theorem d_All_seeds_72 : decode b_All_seeds 72 = .ok (.istore 9, 2) := by decide +kernel
theorem d_All_seeds_74 : decode b_All_seeds 74 = .ok (.iload 9, 2) := by decide +kernel
theorem d_All_seeds_76 : decode b_All_seeds 76 = .ok (.bipush (-9), 2) := by decide +kernel
theorem d_All_seeds_78 : decode b_All_seeds 78 = .ok (.if_icmp .eq 12, 3) := by decide +kernel
theorem d_All_seeds_81 : decode b_All_seeds 81 = .ok (.lload 4, 2) := by decide +kernel
theorem d_All_seeds_83 : decode b_All_seeds 83 = .ok (.lconst 1, 1) := by decide +kernel
theorem d_All_seeds_84 : decode b_All_seeds 84 = .ok (.iload 9, 2) := by decide +kernel
theorem d_All_seeds_86 : decode b_All_seeds 86 = .ok (.lshl, 1) := by decide +kernel
theorem d_All_seeds_87 : decode b_All_seeds 87 = .ok (.lor, 1) := by decide +kernel
theorem d_All_seeds_88 : decode b_All_seeds 88 = .ok (.lstore 4, 2) := by decide +kernel
theorem d_All_seeds_90 : decode b_All_seeds 90 = .ok (.iinc 6 1, 3) := by decide +kernel
theorem d_All_seeds_93 : decode b_All_seeds 93 = .ok (.goto (-60), 3) := by decide +kernel
theorem d_All_seeds_96 : decode b_All_seeds 96 = .ok (.lload 4, 2) := by decide +kernel
theorem d_All_seeds_98 : decode b_All_seeds 98 = .ok (.invokestatic 118, 3) := by decide +kernel
theorem d_All_seeds_101 : decode b_All_seeds 101 = .ok (.ireturn, 1) := by decide +kernel
theorem d_All_image_0 : decode b_All_image 0 = .ok (.aload_n 0, 1) := by decide +kernel
theorem d_All_image_1 : decode b_All_image 1 = .ok (.getfield 19, 3) := by decide +kernel
theorem d_All_image_4 : decode b_All_image 4 = .ok (.aload_n 0, 1) := by decide +kernel
theorem d_All_image_5 : decode b_All_image 5 = .ok (.getfield 10, 3) := by decide +kernel
theorem d_All_image_8 : decode b_All_image 8 = .ok (.invokevirtual 59, 3) := by decide +kernel
theorem d_All_image_11 : decode b_All_image 11 = .ok (.aload_n 0, 1) := by decide +kernel
theorem d_All_image_12 : decode b_All_image 12 = .ok (.iconst 1, 1) := by decide +kernel
theorem d_All_image_13 : decode b_All_image 13 = .ok (.putfield 211, 3) := by decide +kernel
theorem d_All_image_16 : decode b_All_image 16 = .ok (.aload_n 0, 1) := by decide +kernel
theorem d_All_image_17 : decode b_All_image 17 = .ok (.getfield 10, 3) := by decide +kernel
theorem d_All_image_20 : decode b_All_image 20 = .ok (.getfield 140, 3) := by decide +kernel
theorem d_All_image_23 : decode b_All_image 23 = .ok (.ireturn, 1) := by decide +kernel
theorem d_All_on_0 : decode b_All_on 0 = .ok (.aload_n 0, 1) := by decide +kernel
theorem d_All_on_1 : decode b_All_on 1 = .ok (.getfield 211, 3) := by decide +kernel
theorem d_All_on_4 : decode b_All_on 4 = .ok (.ifCond .ne 10, 3) := by decide +kernel
theorem d_All_on_7 : decode b_All_on 7 = .ok (.aload_n 0, 1) := by decide +kernel
theorem d_All_on_8 : decode b_All_on 8 = .ok (.bipush (-3), 2) := by decide +kernel
theorem d_All_on_10 : decode b_All_on 10 = .ok (.invokevirtual 48, 3) := by decide +kernel
theorem d_All_on_13 : decode b_All_on 13 = .ok (.ireturn, 1) := by decide +kernel
theorem d_All_on_14 : decode b_All_on 14 = .ok (.aload_n 0, 1) := by decide +kernel
theorem d_All_on_15 : decode b_All_on 15 = .ok (.getfield 10, 3) := by decide +kernel
theorem d_All_on_18 : decode b_All_on 18 = .ok (.aload_n 0, 1) := by decide +kernel
theorem d_All_on_19 : decode b_All_on 19 = .ok (.getfield 19, 3) := by decide +kernel
theorem d_All_on_22 : decode b_All_on 22 = .ok (.invokevirtual 59, 3) := by decide +kernel
theorem d_All_on_25 : decode b_All_on 25 = .ok (.aload_n 0, 1) := by decide +kernel
theorem d_All_on_26 : decode b_All_on 26 = .ok (.getfield 27, 3) := by decide +kernel
theorem d_All_on_29 : decode b_All_on 29 = .ok (.invokevirtual 45, 3) := by decide +kernel
theorem d_All_on_32 : decode b_All_on 32 = .ok (.aload_n 0, 1) := by decide +kernel
theorem d_All_on_33 : decode b_All_on 33 = .ok (.getfield 10, 3) := by decide +kernel
theorem d_All_on_36 : decode b_All_on 36 = .ok (.getfield 140, 3) := by decide +kernel
theorem d_All_on_39 : decode b_All_on 39 = .ok (.ireturn, 1) := by decide +kernel
theorem d_All_count_0 : decode b_All_count 0 = .ok (.iload_n 1, 1) := by decide +kernel
theorem d_All_count_1 : decode b_All_count 1 = .ok (.tableswitch 60 0 3 #[31, 39, 47, 52], 31) := by decide +kernel
theorem d_All_count_32 : decode b_All_count 32 = .ok (.aload_n 0, 1) := by decide +kernel
theorem d_All_count_33 : decode b_All_count 33 = .ok (.getfield 10, 3) := by decide +kernel
theorem d_All_count_36 : decode b_All_count 36 = .ok (.getfield 140, 3) := by decide +kernel
theorem d_All_count_39 : decode b_All_count 39 = .ok (.ireturn, 1) := by decide +kernel
theorem d_All_count_40 : decode b_All_count 40 = .ok (.aload_n 0, 1) := by decide +kernel
theorem d_All_count_41 : decode b_All_count 41 = .ok (.getfield 10, 3) := by decide +kernel
theorem d_All_count_44 : decode b_All_count 44 = .ok (.getfield 157, 3) := by decide +kernel
theorem d_All_count_47 : decode b_All_count 47 = .ok (.ireturn, 1) := by decide +kernel
theorem d_All_count_48 : decode b_All_count 48 = .ok (.aload_n 0, 1) := by decide +kernel
theorem d_All_count_49 : decode b_All_count 49 = .ok (.getfield 199, 3) := by decide +kernel
theorem d_All_count_52 : decode b_All_count 52 = .ok (.ireturn, 1) := by decide +kernel
theorem d_All_count_53 : decode b_All_count 53 = .ok (.aload_n 0, 1) := by decide +kernel
theorem d_All_count_54 : decode b_All_count 54 = .ok (.getfield 34, 3) := by decide +kernel
theorem d_All_count_57 : decode b_All_count 57 = .ok (.getfield 215, 3) := by decide +kernel
theorem d_All_count_60 : decode b_All_count 60 = .ok (.ireturn, 1) := by decide +kernel
theorem d_All_count_61 : decode b_All_count 61 = .ok (.iload_n 1, 1) := by decide +kernel
theorem d_All_count_62 : decode b_All_count 62 = .ok (.bipush 11, 2) := by decide +kernel
theorem d_All_count_64 : decode b_All_count 64 = .ok (.if_icmp .lt 21, 3) := by decide +kernel
theorem d_All_count_67 : decode b_All_count 67 = .ok (.iload_n 1, 1) := by decide +kernel
theorem d_All_count_68 : decode b_All_count 68 = .ok (.bipush 16, 2) := by decide +kernel
theorem d_All_count_70 : decode b_All_count 70 = .ok (.if_icmp .gt 15, 3) := by decide +kernel
theorem d_All_count_73 : decode b_All_count 73 = .ok (.aload_n 0, 1) := by decide +kernel
theorem d_All_count_74 : decode b_All_count 74 = .ok (.getfield 42, 3) := by decide +kernel
theorem d_All_count_77 : decode b_All_count 77 = .ok (.iload_n 1, 1) := by decide +kernel
theorem d_All_count_78 : decode b_All_count 78 = .ok (.bipush 10, 2) := by decide +kernel
theorem d_All_count_80 : decode b_All_count 80 = .ok (.isub, 1) := by decide +kernel
theorem d_All_count_81 : decode b_All_count 81 = .ok (.iaload, 1) := by decide +kernel
theorem d_All_count_82 : decode b_All_count 82 = .ok (.goto 5, 3) := by decide +kernel
theorem d_All_count_85 : decode b_All_count 85 = .ok (.bipush (-9), 2) := by decide +kernel
theorem d_All_count_87 : decode b_All_count 87 = .ok (.ireturn, 1) := by decide +kernel
theorem d_All_refuse_0 : decode b_All_refuse 0 = .ok (.iload_n 1, 1) := by decide +kernel
theorem d_All_refuse_1 : decode b_All_refuse 1 = .ok (.ineg, 1) := by decide +kernel
theorem d_All_refuse_2 : decode b_All_refuse 2 = .ok (.istore_n 2, 1) := by decide +kernel
theorem d_All_refuse_3 : decode b_All_refuse 3 = .ok (.iload_n 2, 1) := by decide +kernel
theorem d_All_refuse_4 : decode b_All_refuse 4 = .ok (.ifCond .lt 22, 3) := by decide +kernel
theorem d_All_refuse_7 : decode b_All_refuse 7 = .ok (.iload_n 2, 1) := by decide +kernel
theorem d_All_refuse_8 : decode b_All_refuse 8 = .ok (.aload_n 0, 1) := by decide +kernel
theorem d_All_refuse_9 : decode b_All_refuse 9 = .ok (.getfield 42, 3) := by decide +kernel
theorem d_All_refuse_12 : decode b_All_refuse 12 = .ok (.arraylength, 1) := by decide +kernel
theorem d_All_refuse_13 : decode b_All_refuse 13 = .ok (.if_icmp .ge 13, 3) := by decide +kernel
theorem d_All_refuse_16 : decode b_All_refuse 16 = .ok (.aload_n 0, 1) := by decide +kernel
theorem d_All_refuse_17 : decode b_All_refuse 17 = .ok (.getfield 42, 3) := by decide +kernel
theorem d_All_refuse_20 : decode b_All_refuse 20 = .ok (.iload_n 2, 1) := by decide +kernel
theorem d_All_refuse_21 : decode b_All_refuse 21 = .ok (.dup2, 1) := by decide +kernel
theorem d_All_refuse_22 : decode b_All_refuse 22 = .ok (.iaload, 1) := by decide +kernel
theorem d_All_refuse_23 : decode b_All_refuse 23 = .ok (.iconst 1, 1) := by decide +kernel
theorem d_All_refuse_24 : decode b_All_refuse 24 = .ok (.iadd, 1) := by decide +kernel
theorem d_All_refuse_25 : decode b_All_refuse 25 = .ok (.iastore, 1) := by decide +kernel
theorem d_All_refuse_26 : decode b_All_refuse 26 = .ok (.iload_n 1, 1) := by decide +kernel
theorem d_All_refuse_27 : decode b_All_refuse 27 = .ok (.ireturn, 1) := by decide +kernel
theorem d_All_refuseFar_0 : decode b_All_refuseFar 0 = .ok (.ldc 218, 2) := by decide +kernel
theorem d_All_refuseFar_2 : decode b_All_refuseFar 2 = .ok (.aload_n 0, 1) := by decide +kernel
theorem d_All_refuseFar_3 : decode b_All_refuseFar 3 = .ok (.iload_n 1, 1) := by decide +kernel
theorem d_All_refuseFar_4 : decode b_All_refuseFar 4 = .ok (.invokevirtual 48, 3) := by decide +kernel
theorem d_All_refuseFar_7 : decode b_All_refuseFar 7 = .ok (.isub, 1) := by decide +kernel
theorem d_All_refuseFar_8 : decode b_All_refuseFar 8 = .ok (.ireturn, 1) := by decide +kernel
theorem d_All_whyNoLine_0 : decode b_All_whyNoLine 0 = .ok (.iload_n 1, 1) := by decide +kernel
theorem d_All_whyNoLine_1 : decode b_All_whyNoLine 1 = .ok (.bipush (-9), 2) := by decide +kernel
theorem d_All_whyNoLine_3 : decode b_All_whyNoLine 3 = .ok (.if_icmp .lt 15, 3) := by decide +kernel
theorem d_All_whyNoLine_6 : decode b_All_whyNoLine 6 = .ok (.iload_n 2, 1) := by decide +kernel
theorem d_All_whyNoLine_7 : decode b_All_whyNoLine 7 = .ok (.bipush (-9), 2) := by decide +kernel
theorem d_All_whyNoLine_9 : decode b_All_whyNoLine 9 = .ok (.if_icmp .lt 9, 3) := by decide +kernel
theorem d_All_whyNoLine_12 : decode b_All_whyNoLine 12 = .ok (.iload_n 3, 1) := by decide +kernel
theorem d_All_whyNoLine_13 : decode b_All_whyNoLine 13 = .ok (.bipush (-99), 2) := by decide +kernel
theorem d_All_whyNoLine_15 : decode b_All_whyNoLine 15 = .ok (.if_icmp .ge 6, 3) := by decide +kernel
theorem d_All_whyNoLine_18 : decode b_All_whyNoLine 18 = .ok (.bipush (-4), 2) := by decide +kernel
theorem d_All_whyNoLine_20 : decode b_All_whyNoLine 20 = .ok (.ireturn, 1) := by decide +kernel
theorem d_All_whyNoLine_21 : decode b_All_whyNoLine 21 = .ok (.iload_n 1, 1) := by decide +kernel
theorem d_All_whyNoLine_22 : decode b_All_whyNoLine 22 = .ok (.bipush 9, 2) := by decide +kernel
theorem d_All_whyNoLine_24 : decode b_All_whyNoLine 24 = .ok (.if_icmp .gt 15, 3) := by decide +kernel
theorem d_All_whyNoLine_27 : decode b_All_whyNoLine 27 = .ok (.iload_n 2, 1) := by decide +kernel
theorem d_All_whyNoLine_28 : decode b_All_whyNoLine 28 = .ok (.bipush 9, 2) := by decide +kernel
theorem d_All_whyNoLine_30 : decode b_All_whyNoLine 30 = .ok (.if_icmp .gt 9, 3) := by decide +kernel
theorem d_All_whyNoLine_33 : decode b_All_whyNoLine 33 = .ok (.iload_n 3, 1) := by decide +kernel
theorem d_All_whyNoLine_34 : decode b_All_whyNoLine 34 = .ok (.bipush 99, 2) := by decide +kernel
theorem d_All_whyNoLine_36 : decode b_All_whyNoLine 36 = .ok (.if_icmp .le 6, 3) := by decide +kernel
theorem d_All_whyNoLine_39 : decode b_All_whyNoLine 39 = .ok (.bipush (-6), 2) := by decide +kernel
theorem d_All_whyNoLine_41 : decode b_All_whyNoLine 41 = .ok (.ireturn, 1) := by decide +kernel
theorem d_All_whyNoLine_42 : decode b_All_whyNoLine 42 = .ok (.iload_n 1, 1) := by decide +kernel
theorem d_All_whyNoLine_43 : decode b_All_whyNoLine 43 = .ok (.ifCond .ne 12, 3) := by decide +kernel
theorem d_All_whyNoLine_46 : decode b_All_whyNoLine 46 = .ok (.iload_n 2, 1) := by decide +kernel
theorem d_All_whyNoLine_47 : decode b_All_whyNoLine 47 = .ok (.ifCond .ne 8, 3) := by decide +kernel
theorem d_All_whyNoLine_50 : decode b_All_whyNoLine 50 = .ok (.bipush (-3), 2) := by decide +kernel
theorem d_All_whyNoLine_52 : decode b_All_whyNoLine 52 = .ok (.goto 4, 3) := by decide +kernel
theorem d_All_whyNoLine_55 : decode b_All_whyNoLine 55 = .ok (.iconst 0, 1) := by decide +kernel
theorem d_All_whyNoLine_56 : decode b_All_whyNoLine 56 = .ok (.ireturn, 1) := by decide +kernel
theorem d_All_whyNoNewLine_0 : decode b_All_whyNoNewLine 0 = .ok (.aload_n 0, 1) := by decide +kernel
theorem d_All_whyNoNewLine_1 : decode b_All_whyNoNewLine 1 = .ok (.iload_n 1, 1) := by decide +kernel
theorem d_All_whyNoNewLine_2 : decode b_All_whyNoNewLine 2 = .ok (.iload_n 2, 1) := by decide +kernel
theorem d_All_whyNoNewLine_3 : decode b_All_whyNoNewLine 3 = .ok (.iload_n 3, 1) := by decide +kernel
theorem d_All_whyNoNewLine_4 : decode b_All_whyNoNewLine 4 = .ok (.invokevirtual 171, 3) := by decide +kernel
theorem d_All_whyNoNewLine_7 : decode b_All_whyNoNewLine 7 = .ok (.istore 4, 2) := by decide +kernel
theorem d_All_whyNoNewLine_9 : decode b_All_whyNoNewLine 9 = .ok (.iload 4, 2) := by decide +kernel
theorem d_All_whyNoNewLine_11 : decode b_All_whyNoNewLine 11 = .ok (.ifCond .ne 18, 3) := by decide +kernel
theorem d_All_whyNoNewLine_14 : decode b_All_whyNoNewLine 14 = .ok (.aload_n 0, 1) := by decide +kernel
theorem d_All_whyNoNewLine_15 : decode b_All_whyNoNewLine 15 = .ok (.getfield 10, 3) := by decide +kernel
theorem d_All_whyNoNewLine_18 : decode b_All_whyNoNewLine 18 = .ok (.iload_n 1, 1) := by decide +kernel
theorem d_All_whyNoNewLine_19 : decode b_All_whyNoNewLine 19 = .ok (.iload_n 2, 1) := by decide +kernel
theorem d_All_whyNoNewLine_20 : decode b_All_whyNoNewLine 20 = .ok (.invokevirtual 219, 3) := by decide +kernel
theorem d_All_whyNoNewLine_23 : decode b_All_whyNoNewLine 23 = .ok (.ifCond .eq 6, 3) := by decide +kernel
theorem d_All_whyNoNewLine_26 : decode b_All_whyNoNewLine 26 = .ok (.bipush (-3), 2) := by decide +kernel
theorem d_All_whyNoNewLine_28 : decode b_All_whyNoNewLine 28 = .ok (.ireturn, 1) := by decide +kernel
theorem d_All_whyNoNewLine_29 : decode b_All_whyNoNewLine 29 = .ok (.iload 4, 2) := by decide +kernel
theorem d_All_whyNoNewLine_31 : decode b_All_whyNoNewLine 31 = .ok (.ireturn, 1) := by decide +kernel
theorem d_All_fearedLines_0 : decode b_All_fearedLines 0 = .ok (.iconst 0, 1) := by decide +kernel
theorem d_All_fearedLines_1 : decode b_All_fearedLines 1 = .ok (.istore 4, 2) := by decide +kernel
theorem d_All_fearedLines_3 : decode b_All_fearedLines 3 = .ok (.bipush (-9), 2) := by decide +kernel
theorem d_All_fearedLines_5 : decode b_All_fearedLines 5 = .ok (.istore 5, 2) := by decide +kernel
theorem d_All_fearedLines_7 : decode b_All_fearedLines 7 = .ok (.iload 5, 2) := by decide +kernel
theorem d_All_fearedLines_9 : decode b_All_fearedLines 9 = .ok (.bipush 9, 2) := by decide +kernel
theorem d_All_fearedLines_11 : decode b_All_fearedLines 11 = .ok (.if_icmp .gt 30, 3) := by decide +kernel
theorem d_All_fearedLines_14 : decode b_All_fearedLines 14 = .ok (.aload_n 0, 1) := by decide +kernel
theorem d_All_fearedLines_15 : decode b_All_fearedLines 15 = .ok (.getfield 27, 3) := by decide +kernel
theorem d_All_fearedLines_18 : decode b_All_fearedLines 18 = .ok (.iload_n 1, 1) := by decide +kernel
theorem d_All_fearedLines_19 : decode b_All_fearedLines 19 = .ok (.iload_n 2, 1) := by decide +kernel
theorem d_All_fearedLines_20 : decode b_All_fearedLines 20 = .ok (.iload 5, 2) := by decide +kernel
theorem d_All_fearedLines_22 : decode b_All_fearedLines 22 = .ok (.invokevirtual 167, 3) := by decide +kernel
theorem d_All_fearedLines_25 : decode b_All_fearedLines 25 = .ok (.iload_n 3, 1) := by decide +kernel
theorem d_All_fearedLines_26 : decode b_All_fearedLines 26 = .ok (.invokestatic 136, 3) := by decide +kernel
theorem d_All_fearedLines_29 : decode b_All_fearedLines 29 = .ok (.ifCond .eq 6, 3) := by decide +kernel
theorem d_All_fearedLines_32 : decode b_All_fearedLines 32 = .ok (.iinc 4 1, 3) := by decide +kernel
theorem d_All_fearedLines_35 : decode b_All_fearedLines 35 = .ok (.iinc 5 1, 3) := by decide +kernel
theorem d_All_fearedLines_38 : decode b_All_fearedLines 38 = .ok (.goto (-31), 3) := by decide +kernel
theorem d_All_fearedLines_41 : decode b_All_fearedLines 41 = .ok (.iload 4, 2) := by decide +kernel
theorem d_All_fearedLines_43 : decode b_All_fearedLines 43 = .ok (.ireturn, 1) := by decide +kernel
theorem d_All_dearestStreet_0 : decode b_All_dearestStreet 0 = .ok (.bipush (-9), 2) := by decide +kernel
theorem d_All_dearestStreet_2 : decode b_All_dearestStreet 2 = .ok (.istore_n 1, 1) := by decide +kernel
theorem d_All_dearestStreet_3 : decode b_All_dearestStreet 3 = .ok (.bipush 65, 2) := by decide +kernel
theorem d_All_dearestStreet_5 : decode b_All_dearestStreet 5 = .ok (.istore_n 2, 1) := by decide +kernel
theorem d_All_dearestStreet_6 : decode b_All_dearestStreet 6 = .ok (.iconst 0, 1) := by decide +kernel
theorem d_All_dearestStreet_7 : decode b_All_dearestStreet 7 = .ok (.istore_n 3, 1) := by decide +kernel
theorem d_All_dearestStreet_8 : decode b_All_dearestStreet 8 = .ok (.iload_n 3, 1) := by decide +kernel
theorem d_All_dearestStreet_9 : decode b_All_dearestStreet 9 = .ok (.aload_n 0, 1) := by decide +kernel
theorem d_All_dearestStreet_10 : decode b_All_dearestStreet 10 = .ok (.getfield 10, 3) := by decide +kernel
theorem d_All_dearestStreet_13 : decode b_All_dearestStreet 13 = .ok (.getfield 140, 3) := by decide +kernel
theorem d_All_dearestStreet_16 : decode b_All_dearestStreet 16 = .ok (.if_icmp .ge 30, 3) := by decide +kernel
theorem d_All_dearestStreet_19 : decode b_All_dearestStreet 19 = .ok (.aload_n 0, 1) := by decide +kernel
theorem d_All_dearestStreet_20 : decode b_All_dearestStreet 20 = .ok (.getfield 27, 3) := by decide +kernel
theorem d_All_dearestStreet_23 : decode b_All_dearestStreet 23 = .ok (.iload_n 3, 1) := by decide +kernel
theorem d_All_dearestStreet_24 : decode b_All_dearestStreet 24 = .ok (.invokevirtual 196, 3) := by decide +kernel
theorem d_All_dearestStreet_27 : decode b_All_dearestStreet 27 = .ok (.istore 4, 2) := by decide +kernel
theorem d_All_dearestStreet_29 : decode b_All_dearestStreet 29 = .ok (.iload 4, 2) := by decide +kernel
theorem d_All_dearestStreet_31 : decode b_All_dearestStreet 31 = .ok (.iload_n 2, 1) := by decide +kernel
theorem d_All_dearestStreet_32 : decode b_All_dearestStreet 32 = .ok (.if_icmp .ge 8, 3) := by decide +kernel
theorem d_All_dearestStreet_35 : decode b_All_dearestStreet 35 = .ok (.iload 4, 2) := by decide +kernel
theorem d_All_dearestStreet_37 : decode b_All_dearestStreet 37 = .ok (.istore_n 2, 1) := by decide +kernel
theorem d_All_dearestStreet_38 : decode b_All_dearestStreet 38 = .ok (.iload_n 3, 1) := by decide +kernel
theorem d_All_dearestStreet_39 : decode b_All_dearestStreet 39 = .ok (.istore_n 1, 1) := by decide +kernel
theorem d_All_dearestStreet_40 : decode b_All_dearestStreet 40 = .ok (.iinc 3 1, 3) := by decide +kernel
theorem d_All_dearestStreet_43 : decode b_All_dearestStreet 43 = .ok (.goto (-35), 3) := by decide +kernel
theorem d_All_dearestStreet_46 : decode b_All_dearestStreet 46 = .ok (.iload_n 1, 1) := by decide +kernel
theorem d_All_dearestStreet_47 : decode b_All_dearestStreet 47 = .ok (.ireturn, 1) := by decide +kernel
theorem d_All_seedAfter_0 : decode b_All_seedAfter 0 = .ok (.iload_n 0, 1) := by decide +kernel
theorem d_All_seedAfter_1 : decode b_All_seedAfter 1 = .ok (.ldc 223, 2) := by decide +kernel
theorem d_All_seedAfter_3 : decode b_All_seedAfter 3 = .ok (.imul, 1) := by decide +kernel
theorem d_All_seedAfter_4 : decode b_All_seedAfter 4 = .ok (.ldc 224, 2) := by decide +kernel
theorem d_All_seedAfter_6 : decode b_All_seedAfter 6 = .ok (.iadd, 1) := by decide +kernel
theorem d_All_seedAfter_7 : decode b_All_seedAfter 7 = .ok (.ireturn, 1) := by decide +kernel
theorem d_All_placeDrawn_0 : decode b_All_placeDrawn 0 = .ok (.iload_n 0, 1) := by decide +kernel
theorem d_All_placeDrawn_1 : decode b_All_placeDrawn 1 = .ok (.ldc 225, 2) := by decide +kernel
theorem d_All_placeDrawn_3 : decode b_All_placeDrawn 3 = .ok (.iand, 1) := by decide +kernel
theorem d_All_placeDrawn_4 : decode b_All_placeDrawn 4 = .ok (.sipush 256, 3) := by decide +kernel
theorem d_All_placeDrawn_7 : decode b_All_placeDrawn 7 = .ok (.idiv, 1) := by decide +kernel
theorem d_All_placeDrawn_8 : decode b_All_placeDrawn 8 = .ok (.bipush 41, 2) := by decide +kernel
theorem d_All_placeDrawn_10 : decode b_All_placeDrawn 10 = .ok (.irem, 1) := by decide +kernel
theorem d_All_placeDrawn_11 : decode b_All_placeDrawn 11 = .ok (.bipush 20, 2) := by decide +kernel
theorem d_All_placeDrawn_13 : decode b_All_placeDrawn 13 = .ok (.isub, 1) := by decide +kernel
theorem d_All_placeDrawn_14 : decode b_All_placeDrawn 14 = .ok (.ireturn, 1) := by decide +kernel
theorem d_All_has_0 : decode b_All_has 0 = .ok (.iload_n 2, 1) := by decide +kernel
theorem d_All_has_1 : decode b_All_has 1 = .ok (.ifCond .lt 23, 3) := by decide +kernel
theorem d_All_has_4 : decode b_All_has 4 = .ok (.iload_n 2, 1) := by decide +kernel
theorem d_All_has_5 : decode b_All_has 5 = .ok (.bipush 64, 2) := by decide +kernel
theorem d_All_has_7 : decode b_All_has 7 = .ok (.if_icmp .ge 17, 3) := by decide +kernel
theorem d_All_has_10 : decode b_All_has 10 = .ok (.lload_n 0, 1) := by decide +kernel
theorem d_All_has_11 : decode b_All_has 11 = .ok (.iload_n 2, 1) := by decide +kernel
theorem d_All_has_12 : decode b_All_has 12 = .ok (.lshr, 1) := by decide +kernel
theorem d_All_has_13 : decode b_All_has 13 = .ok (.lconst 1, 1) := by decide +kernel
theorem d_All_has_14 : decode b_All_has 14 = .ok (.land, 1) := by decide +kernel
theorem d_All_has_15 : decode b_All_has 15 = .ok (.lconst 0, 1) := by decide +kernel
theorem d_All_has_16 : decode b_All_has 16 = .ok (.lcmp, 1) := by decide +kernel
theorem d_All_has_17 : decode b_All_has 17 = .ok (.ifCond .eq 7, 3) := by decide +kernel
theorem d_All_has_20 : decode b_All_has 20 = .ok (.iconst 1, 1) := by decide +kernel
theorem d_All_has_21 : decode b_All_has 21 = .ok (.goto 4, 3) := by decide +kernel
theorem d_All_has_24 : decode b_All_has 24 = .ok (.iconst 0, 1) := by decide +kernel
theorem d_All_has_25 : decode b_All_has 25 = .ok (.ireturn, 1) := by decide +kernel
theorem d_All_cancelled_0 : decode b_All_cancelled 0 = .ok (.iload_n 2, 1) := by decide +kernel
theorem d_All_cancelled_1 : decode b_All_cancelled 1 = .ok (.istore_n 3, 1) := by decide +kernel
theorem d_All_cancelled_2 : decode b_All_cancelled 2 = .ok (.iload_n 3, 1) := by decide +kernel
theorem d_All_cancelled_3 : decode b_All_cancelled 3 = .ok (.iconst 1, 1) := by decide +kernel
theorem d_All_cancelled_4 : decode b_All_cancelled 4 = .ok (.if_icmp .le 25, 3) := by decide +kernel
theorem d_All_cancelled_7 : decode b_All_cancelled 7 = .ok (.iload_n 1, 1) := by decide +kernel
theorem d_All_cancelled_8 : decode b_All_cancelled 8 = .ok (.iload_n 3, 1) := by decide +kernel
theorem d_All_cancelled_9 : decode b_All_cancelled 9 = .ok (.irem, 1) := by decide +kernel
theorem d_All_cancelled_10 : decode b_All_cancelled 10 = .ok (.ifCond .ne 13, 3) := by decide +kernel
theorem d_All_cancelled_13 : decode b_All_cancelled 13 = .ok (.iload_n 2, 1) := by decide +kernel
theorem d_All_cancelled_14 : decode b_All_cancelled 14 = .ok (.iload_n 3, 1) := by decide +kernel
theorem d_All_cancelled_15 : decode b_All_cancelled 15 = .ok (.irem, 1) := by decide +kernel
theorem d_All_cancelled_16 : decode b_All_cancelled 16 = .ok (.ifCond .ne 7, 3) := by decide +kernel
theorem d_All_cancelled_19 : decode b_All_cancelled 19 = .ok (.iload_n 0, 1) := by decide +kernel
theorem d_All_cancelled_20 : decode b_All_cancelled 20 = .ok (.iload_n 3, 1) := by decide +kernel
theorem d_All_cancelled_21 : decode b_All_cancelled 21 = .ok (.idiv, 1) := by decide +kernel
theorem d_All_cancelled_22 : decode b_All_cancelled 22 = .ok (.ireturn, 1) := by decide +kernel
theorem d_All_cancelled_23 : decode b_All_cancelled 23 = .ok (.iinc 3 (-1), 3) := by decide +kernel
theorem d_All_cancelled_26 : decode b_All_cancelled 26 = .ok (.goto (-24), 3) := by decide +kernel
theorem d_All_cancelled_29 : decode b_All_cancelled 29 = .ok (.iload_n 0, 1) := by decide +kernel
theorem d_All_cancelled_30 : decode b_All_cancelled 30 = .ok (.ireturn, 1) := by decide +kernel
theorem d_Mod_init_0 : decode b_Mod_init 0 = .ok (.aload_n 0, 1) := by decide +kernel
theorem d_Mod_init_1 : decode b_Mod_init 1 = .ok (.invokespecial 1, 3) := by decide +kernel
theorem d_Mod_init_4 : decode b_Mod_init 4 = .ok (.aload_n 0, 1) := by decide +kernel
theorem d_Mod_init_5 : decode b_Mod_init 5 = .ok (.bipush 7, 2) := by decide +kernel
theorem d_Mod_init_7 : decode b_Mod_init 7 = .ok (.newarray .int, 2) := by decide +kernel
theorem d_Mod_init_9 : decode b_Mod_init 9 = .ok (.putfield 7, 3) := by decide +kernel
theorem d_Mod_init_12 : decode b_Mod_init 12 = .ok (.aload_n 0, 1) := by decide +kernel
theorem d_Mod_init_13 : decode b_Mod_init 13 = .ok (.bipush 7, 2) := by decide +kernel
theorem d_Mod_init_15 : decode b_Mod_init 15 = .ok (.newarray .int, 2) := by decide +kernel
theorem d_Mod_init_17 : decode b_Mod_init 17 = .ok (.putfield 13, 3) := by decide +kernel
theorem d_Mod_init_20 : decode b_Mod_init 20 = .ok (.aload_n 0, 1) := by decide +kernel
theorem d_Mod_init_21 : decode b_Mod_init 21 = .ok (.bipush 7, 2) := by decide +kernel
theorem d_Mod_init_23 : decode b_Mod_init 23 = .ok (.newarray .int, 2) := by decide +kernel
theorem d_Mod_init_25 : decode b_Mod_init 25 = .ok (.putfield 16, 3) := by decide +kernel
theorem d_Mod_init_28 : decode b_Mod_init 28 = .ok (.aload_n 0, 1) := by decide +kernel
theorem d_Mod_init_29 : decode b_Mod_init 29 = .ok (.bipush 7, 2) := by decide +kernel
theorem d_Mod_init_31 : decode b_Mod_init 31 = .ok (.newarray .int, 2) := by decide +kernel
theorem d_Mod_init_33 : decode b_Mod_init 33 = .ok (.putfield 19, 3) := by decide +kernel
theorem d_Mod_init_36 : decode b_Mod_init 36 = .ok (.aload_n 0, 1) := by decide +kernel
theorem d_Mod_init_37 : decode b_Mod_init 37 = .ok (.bipush 8, 2) := by decide +kernel
theorem d_Mod_init_39 : decode b_Mod_init 39 = .ok (.newarray .int, 2) := by decide +kernel
theorem d_Mod_init_41 : decode b_Mod_init 41 = .ok (.putfield 22, 3) := by decide +kernel
theorem d_Mod_init_44 : decode b_Mod_init 44 = .ok (.aload_n 0, 1) := by decide +kernel
theorem d_Mod_init_45 : decode b_Mod_init 45 = .ok (.bipush 8, 2) := by decide +kernel
theorem d_Mod_init_47 : decode b_Mod_init 47 = .ok (.newarray .int, 2) := by decide +kernel
theorem d_Mod_init_49 : decode b_Mod_init 49 = .ok (.putfield 25, 3) := by decide +kernel
theorem d_Mod_init_52 : decode b_Mod_init 52 = .ok (.aload_n 0, 1) := by decide +kernel
theorem d_Mod_init_53 : decode b_Mod_init 53 = .ok (.bipush 96, 2) := by decide +kernel
theorem d_Mod_init_55 : decode b_Mod_init 55 = .ok (.newarray .int, 2) := by decide +kernel
theorem d_Mod_init_57 : decode b_Mod_init 57 = .ok (.putfield 28, 3) := by decide +kernel
theorem d_Mod_init_60 : decode b_Mod_init 60 = .ok (.aload_n 0, 1) := by decide +kernel
theorem d_Mod_init_61 : decode b_Mod_init 61 = .ok (.iconst 3, 1) := by decide +kernel
theorem d_Mod_init_62 : decode b_Mod_init 62 = .ok (.newarray .int, 2) := by decide +kernel
theorem d_Mod_init_64 : decode b_Mod_init 64 = .ok (.putfield 31, 3) := by decide +kernel
theorem d_Mod_init_67 : decode b_Mod_init 67 = .ok (.aload_n 0, 1) := by decide +kernel
theorem d_Mod_init_68 : decode b_Mod_init 68 = .ok (.bipush 12, 2) := by decide +kernel
theorem d_Mod_init_70 : decode b_Mod_init 70 = .ok (.newarray .int, 2) := by decide +kernel
theorem d_Mod_init_72 : decode b_Mod_init 72 = .ok (.putfield 34, 3) := by decide +kernel
theorem d_Mod_init_75 : decode b_Mod_init 75 = .ok (.aload_n 0, 1) := by decide +kernel
theorem d_Mod_init_76 : decode b_Mod_init 76 = .ok (.bipush 7, 2) := by decide +kernel
theorem d_Mod_init_78 : decode b_Mod_init 78 = .ok (.newarray .int, 2) := by decide +kernel
theorem d_Mod_init_80 : decode b_Mod_init 80 = .ok (.putfield 37, 3) := by decide +kernel
theorem d_Mod_init_83 : decode b_Mod_init 83 = .ok (.aload_n 0, 1) := by decide +kernel
theorem d_Mod_init_84 : decode b_Mod_init 84 = .ok (.bipush 46, 2) := by decide +kernel
theorem d_Mod_init_86 : decode b_Mod_init 86 = .ok (.newarray .int, 2) := by decide +kernel
theorem d_Mod_init_88 : decode b_Mod_init 88 = .ok (.putfield 40, 3) := by decide +kernel
theorem d_Mod_init_91 : decode b_Mod_init 91 = .ok (.aload_n 0, 1) := by decide +kernel
theorem d_Mod_init_92 : decode b_Mod_init 92 = .ok (.bipush 46, 2) := by decide +kernel
theorem d_Mod_init_94 : decode b_Mod_init 94 = .ok (.newarray .int, 2) := by decide +kernel
theorem d_Mod_init_96 : decode b_Mod_init 96 = .ok (.putfield 43, 3) := by decide +kernel
theorem d_Mod_init_99 : decode b_Mod_init 99 = .ok (.aload_n 0, 1) := by decide +kernel
theorem d_Mod_init_100 : decode b_Mod_init 100 = .ok (.sipush 128, 3) := by decide +kernel
theorem d_Mod_init_103 : decode b_Mod_init 103 = .ok (.newarray .int, 2) := by decide +kernel
theorem d_Mod_init_105 : decode b_Mod_init 105 = .ok (.putfield 46, 3) := by decide +kernel
theorem d_Mod_init_108 : decode b_Mod_init 108 = .ok (.aload_n 0, 1) := by decide +kernel
theorem d_Mod_init_109 : decode b_Mod_init 109 = .ok (.sipush 128, 3) := by decide +kernel
theorem d_Mod_init_112 : decode b_Mod_init 112 = .ok (.newarray .boolean, 2) := by decide +kernel
theorem d_Mod_init_114 : decode b_Mod_init 114 = .ok (.putfield 49, 3) := by decide +kernel
theorem d_Mod_init_117 : decode b_Mod_init 117 = .ok (.return_, 1) := by decide +kernel
theorem d_Mod_no_0 : decode b_Mod_no 0 = .ok (.aload_n 0, 1) := by decide +kernel
theorem d_Mod_no_1 : decode b_Mod_no 1 = .ok (.getfield 37, 3) := by decide +kernel
theorem d_Mod_no_4 : decode b_Mod_no 4 = .ok (.iload_n 1, 1) := by decide +kernel
theorem d_Mod_no_5 : decode b_Mod_no 5 = .ok (.ineg, 1) := by decide +kernel
theorem d_Mod_no_6 : decode b_Mod_no 6 = .ok (.dup2, 1) := by decide +kernel
theorem d_Mod_no_7 : decode b_Mod_no 7 = .ok (.iaload, 1) := by decide +kernel
theorem d_Mod_no_8 : decode b_Mod_no 8 = .ok (.iconst 1, 1) := by decide +kernel
theorem d_Mod_no_9 : decode b_Mod_no 9 = .ok (.iadd, 1) := by decide +kernel
theorem d_Mod_no_10 : decode b_Mod_no 10 = .ok (.iastore, 1) := by decide +kernel
theorem d_Mod_no_11 : decode b_Mod_no 11 = .ok (.iload_n 1, 1) := by decide +kernel
theorem d_Mod_no_12 : decode b_Mod_no 12 = .ok (.ireturn, 1) := by decide +kernel
theorem d_Mod_noFar_0 : decode b_Mod_noFar 0 = .ok (.ldc 53, 2) := by decide +kernel
theorem d_Mod_noFar_2 : decode b_Mod_noFar 2 = .ok (.aload_n 0, 1) := by decide +kernel
theorem d_Mod_noFar_3 : decode b_Mod_noFar 3 = .ok (.iload_n 1, 1) := by decide +kernel
theorem d_Mod_noFar_4 : decode b_Mod_noFar 4 = .ok (.invokevirtual 54, 3) := by decide +kernel
theorem d_Mod_noFar_7 : decode b_Mod_noFar 7 = .ok (.isub, 1) := by decide +kernel
theorem d_Mod_noFar_8 : decode b_Mod_noFar 8 = .ok (.ireturn, 1) := by decide +kernel
theorem d_Mod_within_0 : decode b_Mod_within 0 = .ok (.iload_n 0, 1) := by decide +kernel
theorem d_Mod_within_1 : decode b_Mod_within 1 = .ok (.iload_n 1, 1) := by decide +kernel
theorem d_Mod_within_2 : decode b_Mod_within 2 = .ok (.if_icmp .lt 12, 3) := by decide +kernel
theorem d_Mod_within_5 : decode b_Mod_within 5 = .ok (.iload_n 0, 1) := by decide +kernel
theorem d_Mod_within_6 : decode b_Mod_within 6 = .ok (.iload_n 2, 1) := by decide +kernel
theorem d_Mod_within_7 : decode b_Mod_within 7 = .ok (.if_icmp .gt 7, 3) := by decide +kernel
theorem d_Mod_within_10 : decode b_Mod_within 10 = .ok (.iconst 1, 1) := by decide +kernel
theorem d_Mod_within_11 : decode b_Mod_within 11 = .ok (.goto 4, 3) := by decide +kernel
theorem d_Mod_within_14 : decode b_Mod_within 14 = .ok (.iconst 0, 1) := by decide +kernel
theorem d_Mod_within_15 : decode b_Mod_within 15 = .ok (.ireturn, 1) := by decide +kernel
theorem d_Mod_has_0 : decode b_Mod_has 0 = .ok (.iload_n 0, 1) := by decide +kernel
theorem d_Mod_has_1 : decode b_Mod_has 1 = .ok (.iload_n 1, 1) := by decide +kernel
theorem d_Mod_has_2 : decode b_Mod_has 2 = .ok (.ishr, 1) := by decide +kernel
theorem d_Mod_has_3 : decode b_Mod_has 3 = .ok (.iconst 1, 1) := by decide +kernel
theorem d_Mod_has_4 : decode b_Mod_has 4 = .ok (.iand, 1) := by decide +kernel
theorem d_Mod_has_5 : decode b_Mod_has 5 = .ok (.iconst 1, 1) := by decide +kernel
theorem d_Mod_has_6 : decode b_Mod_has 6 = .ok (.if_icmp .ne 7, 3) := by decide +kernel
theorem d_Mod_has_9 : decode b_Mod_has 9 = .ok (.iconst 1, 1) := by decide +kernel
theorem d_Mod_has_10 : decode b_Mod_has 10 = .ok (.goto 4, 3) := by decide +kernel
theorem d_Mod_has_13 : decode b_Mod_has 13 = .ok (.iconst 0, 1) := by decide +kernel
theorem d_Mod_has_14 : decode b_Mod_has 14 = .ok (.ireturn, 1) := by decide +kernel
theorem d_Mod_isStreet_0 : decode b_Mod_isStreet 0 = .ok (.iload_n 1, 1) := by decide +kernel
theorem d_Mod_isStreet_1 : decode b_Mod_isStreet 1 = .ok (.iconst 0, 1) := by decide +kernel
theorem d_Mod_isStreet_2 : decode b_Mod_isStreet 2 = .ok (.aload_n 0, 1) := by decide +kernel
theorem d_Mod_isStreet_3 : decode b_Mod_isStreet 3 = .ok (.getfield 58, 3) := by decide +kernel
theorem d_Mod_isStreet_6 : decode b_Mod_isStreet 6 = .ok (.iconst 1, 1) := by decide +kernel
theorem d_Mod_isStreet_7 : decode b_Mod_isStreet 7 = .ok (.isub, 1) := by decide +kernel
theorem d_Mod_isStreet_8 : decode b_Mod_isStreet 8 = .ok (.invokestatic 62, 3) := by decide +kernel
theorem d_Mod_isStreet_11 : decode b_Mod_isStreet 11 = .ok (.ireturn, 1) := by decide +kernel
theorem d_Mod_isPlot_0 : decode b_Mod_isPlot 0 = .ok (.iload_n 1, 1) := by decide +kernel
theorem d_Mod_isPlot_1 : decode b_Mod_isPlot 1 = .ok (.iconst 0, 1) := by decide +kernel
theorem d_Mod_isPlot_2 : decode b_Mod_isPlot 2 = .ok (.aload_n 0, 1) := by decide +kernel
theorem d_Mod_isPlot_3 : decode b_Mod_isPlot 3 = .ok (.getfield 66, 3) := by decide +kernel
theorem d_Mod_isPlot_6 : decode b_Mod_isPlot 6 = .ok (.iconst 1, 1) := by decide +kernel
theorem d_Mod_isPlot_7 : decode b_Mod_isPlot 7 = .ok (.isub, 1) := by decide +kernel
theorem d_Mod_isPlot_8 : decode b_Mod_isPlot 8 = .ok (.invokestatic 62, 3) := by decide +kernel
theorem d_Mod_isPlot_11 : decode b_Mod_isPlot 11 = .ok (.ireturn, 1) := by decide +kernel
theorem d_Mod_isDirection_0 : decode b_Mod_isDirection 0 = .ok (.iconst 0, 1) := by decide +kernel
theorem d_Mod_isDirection_1 : decode b_Mod_isDirection 1 = .ok (.istore 4, 2) := by decide +kernel
theorem d_Mod_isDirection_3 : decode b_Mod_isDirection 3 = .ok (.iload 4, 2) := by decide +kernel
theorem d_Mod_isDirection_5 : decode b_Mod_isDirection 5 = .ok (.iload_n 3, 1) := by decide +kernel
theorem d_Mod_isDirection_6 : decode b_Mod_isDirection 6 = .ok (.if_icmp .ge 32, 3) := by decide +kernel
theorem d_Mod_isDirection_9 : decode b_Mod_isDirection 9 = .ok (.aload_n 0, 1) := by decide +kernel
theorem d_Mod_isDirection_10 : decode b_Mod_isDirection 10 = .ok (.getfield 13, 3) := by decide +kernel
theorem d_Mod_isDirection_13 : decode b_Mod_isDirection 13 = .ok (.iload 4, 2) := by decide +kernel
theorem d_Mod_isDirection_15 : decode b_Mod_isDirection 15 = .ok (.iaload, 1) := by decide +kernel
theorem d_Mod_isDirection_16 : decode b_Mod_isDirection 16 = .ok (.iload_n 2, 1) := by decide +kernel
theorem d_Mod_isDirection_17 : decode b_Mod_isDirection 17 = .ok (.imul, 1) := by decide +kernel
theorem d_Mod_isDirection_18 : decode b_Mod_isDirection 18 = .ok (.iload_n 1, 1) := by decide +kernel
theorem d_Mod_isDirection_19 : decode b_Mod_isDirection 19 = .ok (.aload_n 0, 1) := by decide +kernel
theorem d_Mod_isDirection_20 : decode b_Mod_isDirection 20 = .ok (.getfield 16, 3) := by decide +kernel
theorem d_Mod_isDirection_23 : decode b_Mod_isDirection 23 = .ok (.iload 4, 2) := by decide +kernel
theorem d_Mod_isDirection_25 : decode b_Mod_isDirection 25 = .ok (.iaload, 1) := by decide +kernel
theorem d_Mod_isDirection_26 : decode b_Mod_isDirection 26 = .ok (.imul, 1) := by decide +kernel
theorem d_Mod_isDirection_27 : decode b_Mod_isDirection 27 = .ok (.if_icmp .ne 5, 3) := by decide +kernel
theorem d_Mod_isDirection_30 : decode b_Mod_isDirection 30 = .ok (.iconst 1, 1) := by decide +kernel
theorem d_Mod_isDirection_31 : decode b_Mod_isDirection 31 = .ok (.ireturn, 1) := by decide +kernel
theorem d_Mod_isDirection_32 : decode b_Mod_isDirection 32 = .ok (.iinc 4 1, 3) := by decide +kernel
theorem d_Mod_isDirection_35 : decode b_Mod_isDirection 35 = .ok (.goto (-32), 3) := by decide +kernel
theorem d_Mod_isDirection_38 : decode b_Mod_isDirection 38 = .ok (.iconst 0, 1) := by decide +kernel
theorem d_Mod_isDirection_39 : decode b_Mod_isDirection 39 = .ok (.ireturn, 1) := by decide +kernel
theorem d_Mod_letter_0 : decode b_Mod_letter 0 = .ok (.iload_n 1, 1) := by decide +kernel
theorem d_Mod_letter_1 : decode b_Mod_letter 1 = .ok (.ifCond .ge 10, 3) := by decide +kernel
theorem d_Mod_letter_4 : decode b_Mod_letter 4 = .ok (.aload_n 0, 1) := by decide +kernel
theorem d_Mod_letter_5 : decode b_Mod_letter 5 = .ok (.bipush (-4), 2) := by decide +kernel
theorem d_Mod_letter_7 : decode b_Mod_letter 7 = .ok (.invokevirtual 54, 3) := by decide +kernel
theorem d_Mod_letter_10 : decode b_Mod_letter 10 = .ok (.ireturn, 1) := by decide +kernel
theorem d_Mod_letter_11 : decode b_Mod_letter 11 = .ok (.iload_n 1, 1) := by decide +kernel
theorem d_Mod_letter_12 : decode b_Mod_letter 12 = .ok (.sipush 255, 3) := by decide +kernel
theorem d_Mod_letter_15 : decode b_Mod_letter 15 = .ok (.if_icmp .gt 12, 3) := by decide +kernel
theorem d_Mod_letter_18 : decode b_Mod_letter 18 = .ok (.aload_n 0, 1) := by decide +kernel
theorem d_Mod_letter_19 : decode b_Mod_letter 19 = .ok (.getfield 69, 3) := by decide +kernel
theorem d_Mod_letter_22 : decode b_Mod_letter 22 = .ok (.bipush 96, 2) := by decide +kernel
theorem d_Mod_letter_24 : decode b_Mod_letter 24 = .ok (.if_icmp .ne 10, 3) := by decide +kernel
theorem d_Mod_letter_27 : decode b_Mod_letter 27 = .ok (.aload_n 0, 1) := by decide +kernel
theorem d_Mod_letter_28 : decode b_Mod_letter 28 = .ok (.bipush (-6), 2) := by decide +kernel
theorem d_Mod_letter_30 : decode b_Mod_letter 30 = .ok (.invokevirtual 54, 3) := by decide +kernel
theorem d_Mod_letter_33 : decode b_Mod_letter 33 = .ok (.ireturn, 1) := by decide +kernel
theorem d_Mod_letter_34 : decode b_Mod_letter 34 = .ok (.aload_n 0, 1) := by decide +kernel
theorem d_Mod_letter_35 : decode b_Mod_letter 35 = .ok (.getfield 28, 3) := by decide +kernel
theorem d_Mod_letter_38 : decode b_Mod_letter 38 = .ok (.aload_n 0, 1) := by decide +kernel
theorem d_Mod_letter_39 : decode b_Mod_letter 39 = .ok (.dup, 1) := by decide +kernel
theorem d_Mod_letter_40 : decode b_Mod_letter 40 = .ok (.getfield 69, 3) := by decide +kernel
theorem d_Mod_letter_43 : decode b_Mod_letter 43 = .ok (.dup_x1, 1) := by decide +kernel
theorem d_Mod_letter_44 : decode b_Mod_letter 44 = .ok (.iconst 1, 1) := by decide +kernel
theorem d_Mod_letter_45 : decode b_Mod_letter 45 = .ok (.iadd, 1) := by decide +kernel
theorem d_Mod_letter_46 : decode b_Mod_letter 46 = .ok (.putfield 69, 3) := by decide +kernel
theorem d_Mod_letter_49 : decode b_Mod_letter 49 = .ok (.iload_n 1, 1) := by decide +kernel
theorem d_Mod_letter_50 : decode b_Mod_letter 50 = .ok (.iastore, 1) := by decide +kernel
theorem d_Mod_letter_51 : decode b_Mod_letter 51 = .ok (.aload_n 0, 1) := by decide +kernel
theorem d_Mod_letter_52 : decode b_Mod_letter 52 = .ok (.getfield 69, 3) := by decide +kernel
theorem d_Mod_letter_55 : decode b_Mod_letter 55 = .ok (.ireturn, 1) := by decide +kernel
theorem d_Mod_is_0 : decode b_Mod_is 0 = .ok (.aload_n 0, 1) := by decide +kernel
theorem d_Mod_is_1 : decode b_Mod_is 1 = .ok (.getfield 72, 3) := by decide +kernel
theorem d_Mod_is_4 : decode b_Mod_is 4 = .ok (.aload_n 0, 1) := by decide +kernel
theorem d_Mod_is_5 : decode b_Mod_is 5 = .ok (.getfield 69, 3) := by decide +kernel
theorem d_Mod_is_8 : decode b_Mod_is 8 = .ok (.if_icmp .eq 16, 3) := by decide +kernel
theorem d_Mod_is_11 : decode b_Mod_is 11 = .ok (.aload_n 0, 1) := by decide +kernel
theorem d_Mod_is_12 : decode b_Mod_is 12 = .ok (.getfield 28, 3) := by decide +kernel
theorem d_Mod_is_15 : decode b_Mod_is 15 = .ok (.aload_n 0, 1) := by decide +kernel
theorem d_Mod_is_16 : decode b_Mod_is 16 = .ok (.getfield 72, 3) := by decide +kernel
theorem d_Mod_is_19 : decode b_Mod_is 19 = .ok (.iaload, 1) := by decide +kernel
theorem d_Mod_is_20 : decode b_Mod_is 20 = .ok (.iload_n 1, 1) := by decide +kernel
theorem d_Mod_is_21 : decode b_Mod_is 21 = .ok (.if_icmp .eq 5, 3) := by decide +kernel
theorem d_Mod_is_24 : decode b_Mod_is 24 = .ok (.iconst 0, 1) := by decide +kernel
theorem d_Mod_is_25 : decode b_Mod_is 25 = .ok (.ireturn, 1) := by decide +kernel
theorem d_Mod_is_26 : decode b_Mod_is 26 = .ok (.aload_n 0, 1) := by decide +kernel
theorem d_Mod_is_27 : decode b_Mod_is 27 = .ok (.dup, 1) := by decide +kernel
theorem d_Mod_is_28 : decode b_Mod_is 28 = .ok (.getfield 72, 3) := by decide +kernel
theorem d_Mod_is_31 : decode b_Mod_is 31 = .ok (.iconst 1, 1) := by decide +kernel
theorem d_Mod_is_32 : decode b_Mod_is 32 = .ok (.iadd, 1) := by decide +kernel
theorem d_Mod_is_33 : decode b_Mod_is 33 = .ok (.putfield 72, 3) := by decide +kernel
theorem d_Mod_is_36 : decode b_Mod_is 36 = .ok (.iconst 1, 1) := by decide +kernel
theorem d_Mod_is_37 : decode b_Mod_is 37 = .ok (.ireturn, 1) := by decide +kernel
theorem d_Mod_isDigit_0 : decode b_Mod_isDigit 0 = .ok (.aload_n 0, 1) := by decide +kernel
theorem d_Mod_isDigit_1 : decode b_Mod_isDigit 1 = .ok (.getfield 72, 3) := by decide +kernel
theorem d_Mod_isDigit_4 : decode b_Mod_isDigit 4 = .ok (.aload_n 0, 1) := by decide +kernel
theorem d_Mod_isDigit_5 : decode b_Mod_isDigit 5 = .ok (.getfield 69, 3) := by decide +kernel
theorem d_Mod_isDigit_8 : decode b_Mod_isDigit 8 = .ok (.if_icmp .ge 35, 3) := by decide +kernel
theorem d_Mod_isDigit_11 : decode b_Mod_isDigit 11 = .ok (.aload_n 0, 1) := by decide +kernel
theorem d_Mod_isDigit_12 : decode b_Mod_isDigit 12 = .ok (.getfield 28, 3) := by decide +kernel
theorem d_Mod_isDigit_15 : decode b_Mod_isDigit 15 = .ok (.aload_n 0, 1) := by decide +kernel
theorem d_Mod_isDigit_16 : decode b_Mod_isDigit 16 = .ok (.getfield 72, 3) := by decide +kernel
theorem d_Mod_isDigit_19 : decode b_Mod_isDigit 19 = .ok (.iaload, 1) := by decide +kernel
theorem d_Mod_isDigit_20 : decode b_Mod_isDigit 20 = .ok (.bipush 48, 2) := by decide +kernel
theorem d_Mod_isDigit_22 : decode b_Mod_isDigit 22 = .ok (.if_icmp .lt 21, 3) := by decide +kernel
theorem d_Mod_isDigit_25 : decode b_Mod_isDigit 25 = .ok (.aload_n 0, 1) := by decide +kernel
theorem d_Mod_isDigit_26 : decode b_Mod_isDigit 26 = .ok (.getfield 28, 3) := by decide +kernel
theorem d_Mod_isDigit_29 : decode b_Mod_isDigit 29 = .ok (.aload_n 0, 1) := by decide +kernel
theorem d_Mod_isDigit_30 : decode b_Mod_isDigit 30 = .ok (.getfield 72, 3) := by decide +kernel
theorem d_Mod_isDigit_33 : decode b_Mod_isDigit 33 = .ok (.iaload, 1) := by decide +kernel
theorem d_Mod_isDigit_34 : decode b_Mod_isDigit 34 = .ok (.bipush 57, 2) := by decide +kernel
theorem d_Mod_isDigit_36 : decode b_Mod_isDigit 36 = .ok (.if_icmp .gt 7, 3) := by decide +kernel
theorem d_Mod_isDigit_39 : decode b_Mod_isDigit 39 = .ok (.iconst 1, 1) := by decide +kernel
theorem d_Mod_isDigit_40 : decode b_Mod_isDigit 40 = .ok (.goto 4, 3) := by decide +kernel
theorem d_Mod_isDigit_43 : decode b_Mod_isDigit 43 = .ok (.iconst 0, 1) := by decide +kernel
theorem d_Mod_isDigit_44 : decode b_Mod_isDigit 44 = .ok (.ireturn, 1) := by decide +kernel
theorem d_Mod_number_0 : decode b_Mod_number 0 = .ok (.aload_n 0, 1) := by decide +kernel
theorem d_Mod_number_1 : decode b_Mod_number 1 = .ok (.bipush 45, 2) := by decide +kernel
theorem d_Mod_number_3 : decode b_Mod_number 3 = .ok (.invokevirtual 75, 3) := by decide +kernel
theorem d_Mod_number_6 : decode b_Mod_number 6 = .ok (.istore_n 3, 1) := by decide +kernel
theorem d_Mod_number_7 : decode b_Mod_number 7 = .ok (.iload_n 3, 1) := by decide +kernel
theorem d_Mod_number_8 : decode b_Mod_number 8 = .ok (.ifCond .ne 12, 3) := by decide +kernel
theorem d_Mod_number_11 : decode b_Mod_number 11 = .ok (.aload_n 0, 1) := by decide +kernel
theorem d_Mod_number_12 : decode b_Mod_number 12 = .ok (.bipush 43, 2) := by decide +kernel
theorem d_Mod_number_14 : decode b_Mod_number 14 = .ok (.invokevirtual 75, 3) := by decide +kernel
theorem d_Mod_number_17 : decode b_Mod_number 17 = .ok (.ifCond .eq 10, 3) := by decide +kernel
theorem d_Mod_number_20 : decode b_Mod_number 20 = .ok (.aload_n 0, 1) := by decide +kernel
theorem d_Mod_number_21 : decode b_Mod_number 21 = .ok (.invokevirtual 79, 3) := by decide +kernel
theorem d_Mod_number_24 : decode b_Mod_number 24 = .ok (.ifCond .ne 5, 3) := by decide +kernel
theorem d_Mod_number_27 : decode b_Mod_number 27 = .ok (.iconst 0, 1) := by decide +kernel
theorem d_Mod_number_28 : decode b_Mod_number 28 = .ok (.ireturn, 1) := by decide +kernel
theorem d_Mod_number_29 : decode b_Mod_number 29 = .ok (.aload_n 0, 1) := by decide +kernel
theorem d_Mod_number_30 : decode b_Mod_number 30 = .ok (.getfield 28, 3) := by decide +kernel
theorem d_Mod_number_33 : decode b_Mod_number 33 = .ok (.aload_n 0, 1) := by decide +kernel
theorem d_Mod_number_34 : decode b_Mod_number 34 = .ok (.dup, 1) := by decide +kernel
theorem d_Mod_number_35 : decode b_Mod_number 35 = .ok (.getfield 72, 3) := by decide +kernel
theorem d_Mod_number_38 : decode b_Mod_number 38 = .ok (.dup_x1, 1) := by decide +kernel
theorem d_Mod_number_39 : decode b_Mod_number 39 = .ok (.iconst 1, 1) := by decide +kernel
theorem d_Mod_number_40 : decode b_Mod_number 40 = .ok (.iadd, 1) := by decide +kernel
theorem d_Mod_number_41 : decode b_Mod_number 41 = .ok (.putfield 72, 3) := by decide +kernel
theorem d_Mod_number_44 : decode b_Mod_number 44 = .ok (.iaload, 1) := by decide +kernel
theorem d_Mod_number_45 : decode b_Mod_number 45 = .ok (.bipush 48, 2) := by decide +kernel
theorem d_Mod_number_47 : decode b_Mod_number 47 = .ok (.isub, 1) := by decide +kernel
theorem d_Mod_number_48 : decode b_Mod_number 48 = .ok (.istore 4, 2) := by decide +kernel
theorem d_Mod_number_50 : decode b_Mod_number 50 = .ok (.iload_n 2, 1) := by decide +kernel
theorem d_Mod_number_51 : decode b_Mod_number 51 = .ok (.ifCond .eq 37, 3) := by decide +kernel
theorem d_Mod_number_54 : decode b_Mod_number 54 = .ok (.aload_n 0, 1) := by decide +kernel
theorem d_Mod_number_55 : decode b_Mod_number 55 = .ok (.invokevirtual 79, 3) := by decide +kernel
theorem d_Mod_number_58 : decode b_Mod_number 58 = .ok (.ifCond .eq 30, 3) := by decide +kernel
theorem d_Mod_number_61 : decode b_Mod_number 61 = .ok (.bipush 10, 2) := by decide +kernel
theorem d_Mod_number_63 : decode b_Mod_number 63 = .ok (.iload 4, 2) := by decide +kernel
theorem d_Mod_number_65 : decode b_Mod_number 65 = .ok (.imul, 1) := by decide +kernel
theorem d_Mod_number_66 : decode b_Mod_number 66 = .ok (.aload_n 0, 1) := by decide +kernel
theorem d_Mod_number_67 : decode b_Mod_number 67 = .ok (.getfield 28, 3) := by decide +kernel
theorem d_Mod_number_70 : decode b_Mod_number 70 = .ok (.aload_n 0, 1) := by decide +kernel
theorem d_Mod_number_71 : decode b_Mod_number 71 = .ok (.dup, 1) := by decide +kernel
theorem d_Mod_number_72 : decode b_Mod_number 72 = .ok (.getfield 72, 3) := by decide +kernel
theorem d_Mod_number_75 : decode b_Mod_number 75 = .ok (.dup_x1, 1) := by decide +kernel
theorem d_Mod_number_76 : decode b_Mod_number 76 = .ok (.iconst 1, 1) := by decide +kernel
theorem d_Mod_number_77 : decode b_Mod_number 77 = .ok (.iadd, 1) := by decide +kernel
theorem d_Mod_number_78 : decode b_Mod_number 78 = .ok (.putfield 72, 3) := by decide +kernel
theorem d_Mod_number_81 : decode b_Mod_number 81 = .ok (.iaload, 1) := by decide +kernel
theorem d_Mod_number_82 : decode b_Mod_number 82 = .ok (.iadd, 1) := by decide +kernel
theorem d_Mod_number_83 : decode b_Mod_number 83 = .ok (.bipush 48, 2) := by decide +kernel
theorem d_Mod_number_85 : decode b_Mod_number 85 = .ok (.isub, 1) := by decide +kernel
theorem d_Mod_number_86 : decode b_Mod_number 86 = .ok (.istore 4, 2) := by decide +kernel
theorem d_Mod_number_88 : decode b_Mod_number 88 = .ok (.aload_n 0, 1) := by decide +kernel
theorem d_Mod_number_89 : decode b_Mod_number 89 = .ok (.getfield 31, 3) := by decide +kernel
theorem d_Mod_number_92 : decode b_Mod_number 92 = .ok (.iload_n 1, 1) := by decide +kernel
theorem d_Mod_number_93 : decode b_Mod_number 93 = .ok (.iload_n 3, 1) := by decide +kernel
theorem d_Mod_number_94 : decode b_Mod_number 94 = .ok (.ifCond .eq 9, 3) := by decide +kernel
theorem d_Mod_number_97 : decode b_Mod_number 97 = .ok (.iload 4, 2) := by decide +kernel
theorem d_Mod_number_99 : decode b_Mod_number 99 = .ok (.ineg, 1) := by decide +kernel
theorem d_Mod_number_100 : decode b_Mod_number 100 = .ok (.goto 5, 3) := by decide +kernel
theorem d_Mod_number_103 : decode b_Mod_number 103 = .ok (.iload 4, 2) := by decide +kernel
theorem d_Mod_number_105 : decode b_Mod_number 105 = .ok (.iastore, 1) := by decide +kernel
theorem d_Mod_number_106 : decode b_Mod_number 106 = .ok (.iconst 1, 1) := by decide +kernel
theorem d_Mod_number_107 : decode b_Mod_number 107 = .ok (.ireturn, 1) := by decide +kernel
theorem d_Mod_statement_0 : decode b_Mod_statement 0 = .ok (.aload_n 0, 1) := by decide +kernel
theorem d_Mod_statement_1 : decode b_Mod_statement 1 = .ok (.bipush 112, 2) := by decide +kernel
theorem d_Mod_statement_3 : decode b_Mod_statement 3 = .ok (.invokevirtual 75, 3) := by decide +kernel
theorem d_Mod_statement_6 : decode b_Mod_statement 6 = .ok (.ifCond .eq 111, 3) := by decide +kernel
theorem d_Mod_statement_9 : decode b_Mod_statement 9 = .ok (.aload_n 0, 1) := by decide +kernel
theorem d_Mod_statement_10 : decode b_Mod_statement 10 = .ok (.iconst 0, 1) := by decide +kernel
theorem d_Mod_statement_11 : decode b_Mod_statement 11 = .ok (.iconst 1, 1) := by decide +kernel
theorem d_Mod_statement_12 : decode b_Mod_statement 12 = .ok (.invokevirtual 83, 3) := by decide +kernel
theorem d_Mod_statement_15 : decode b_Mod_statement 15 = .ok (.ifCond .eq 12, 3) := by decide +kernel
theorem d_Mod_statement_18 : decode b_Mod_statement 18 = .ok (.aload_n 0, 1) := by decide +kernel
theorem d_Mod_statement_19 : decode b_Mod_statement 19 = .ok (.iconst 1, 1) := by decide +kernel
theorem d_Mod_statement_20 : decode b_Mod_statement 20 = .ok (.iconst 1, 1) := by decide +kernel
theorem d_Mod_statement_21 : decode b_Mod_statement 21 = .ok (.invokevirtual 83, 3) := by decide +kernel
theorem d_Mod_statement_24 : decode b_Mod_statement 24 = .ok (.ifCond .ne 5, 3) := by decide +kernel
theorem d_Mod_statement_27 : decode b_Mod_statement 27 = .ok (.iconst (-1), 1) := by decide +kernel
theorem d_Mod_statement_28 : decode b_Mod_statement 28 = .ok (.ireturn, 1) := by decide +kernel
theorem d_Mod_statement_29 : decode b_Mod_statement 29 = .ok (.iload_n 1, 1) := by decide +kernel
theorem d_Mod_statement_30 : decode b_Mod_statement 30 = .ok (.ifCond .ne 5, 3) := by decide +kernel
theorem d_Mod_statement_33 : decode b_Mod_statement 33 = .ok (.iconst 1, 1) := by decide +kernel
theorem d_Mod_statement_34 : decode b_Mod_statement 34 = .ok (.ireturn, 1) := by decide +kernel
theorem d_Mod_statement_35 : decode b_Mod_statement 35 = .ok (.aload_n 0, 1) := by decide +kernel
theorem d_Mod_statement_36 : decode b_Mod_statement 36 = .ok (.getfield 31, 3) := by decide +kernel
theorem d_Mod_statement_39 : decode b_Mod_statement 39 = .ok (.iconst 0, 1) := by decide +kernel
theorem d_Mod_statement_40 : decode b_Mod_statement 40 = .ok (.iaload, 1) := by decide +kernel
theorem d_Mod_statement_41 : decode b_Mod_statement 41 = .ok (.bipush (-20), 2) := by decide +kernel
theorem d_Mod_statement_43 : decode b_Mod_statement 43 = .ok (.bipush 20, 2) := by decide +kernel
theorem d_Mod_statement_45 : decode b_Mod_statement 45 = .ok (.invokestatic 62, 3) := by decide +kernel
theorem d_Mod_statement_48 : decode b_Mod_statement 48 = .ok (.ifCond .eq 28, 3) := by decide +kernel
theorem d_Mod_statement_51 : decode b_Mod_statement 51 = .ok (.aload_n 0, 1) := by decide +kernel
theorem d_Mod_statement_52 : decode b_Mod_statement 52 = .ok (.getfield 31, 3) := by decide +kernel
theorem d_Mod_statement_55 : decode b_Mod_statement 55 = .ok (.iconst 1, 1) := by decide +kernel
theorem d_Mod_statement_56 : decode b_Mod_statement 56 = .ok (.iaload, 1) := by decide +kernel
theorem d_Mod_statement_57 : decode b_Mod_statement 57 = .ok (.bipush (-20), 2) := by decide +kernel
theorem d_Mod_statement_59 : decode b_Mod_statement 59 = .ok (.bipush 20, 2) := by decide +kernel
theorem d_Mod_statement_61 : decode b_Mod_statement 61 = .ok (.invokestatic 62, 3) := by decide +kernel
theorem d_Mod_statement_64 : decode b_Mod_statement 64 = .ok (.ifCond .eq 12, 3) := by decide +kernel
theorem d_Mod_statement_67 : decode b_Mod_statement 67 = .ok (.aload_n 0, 1) := by decide +kernel
theorem d_Mod_statement_68 : decode b_Mod_statement 68 = .ok (.getfield 66, 3) := by decide +kernel
theorem d_Mod_statement_71 : decode b_Mod_statement 71 = .ok (.bipush 8, 2) := by decide +kernel
theorem d_Mod_statement_73 : decode b_Mod_statement 73 = .ok (.if_icmp .ne 5, 3) := by decide +kernel
theorem d_Mod_statement_76 : decode b_Mod_statement 76 = .ok (.iconst 0, 1) := by decide +kernel
theorem d_Mod_statement_77 : decode b_Mod_statement 77 = .ok (.ireturn, 1) := by decide +kernel
theorem d_Mod_statement_78 : decode b_Mod_statement 78 = .ok (.aload_n 0, 1) := by decide +kernel
theorem d_Mod_statement_79 : decode b_Mod_statement 79 = .ok (.getfield 22, 3) := by decide +kernel
theorem d_Mod_statement_82 : decode b_Mod_statement 82 = .ok (.aload_n 0, 1) := by decide +kernel
theorem d_Mod_statement_83 : decode b_Mod_statement 83 = .ok (.getfield 66, 3) := by decide +kernel
theorem d_Mod_statement_86 : decode b_Mod_statement 86 = .ok (.aload_n 0, 1) := by decide +kernel
theorem d_Mod_statement_87 : decode b_Mod_statement 87 = .ok (.getfield 31, 3) := by decide +kernel
theorem d_Mod_statement_90 : decode b_Mod_statement 90 = .ok (.iconst 0, 1) := by decide +kernel
theorem d_Mod_statement_91 : decode b_Mod_statement 91 = .ok (.iaload, 1) := by decide +kernel
theorem d_Mod_statement_92 : decode b_Mod_statement 92 = .ok (.iastore, 1) := by decide +kernel
theorem d_Mod_statement_93 : decode b_Mod_statement 93 = .ok (.aload_n 0, 1) := by decide +kernel
theorem d_Mod_statement_94 : decode b_Mod_statement 94 = .ok (.getfield 25, 3) := by decide +kernel
theorem d_Mod_statement_97 : decode b_Mod_statement 97 = .ok (.aload_n 0, 1) := by decide +kernel
theorem d_Mod_statement_98 : decode b_Mod_statement 98 = .ok (.dup, 1) := by decide +kernel
theorem d_Mod_statement_99 : decode b_Mod_statement 99 = .ok (.getfield 66, 3) := by decide +kernel
theorem d_Mod_statement_102 : decode b_Mod_statement 102 = .ok (.dup_x1, 1) := by decide +kernel
theorem d_Mod_statement_103 : decode b_Mod_statement 103 = .ok (.iconst 1, 1) := by decide +kernel
theorem d_Mod_statement_104 : decode b_Mod_statement 104 = .ok (.iadd, 1) := by decide +kernel
theorem d_Mod_statement_105 : decode b_Mod_statement 105 = .ok (.putfield 66, 3) := by decide +kernel
theorem d_Mod_statement_108 : decode b_Mod_statement 108 = .ok (.aload_n 0, 1) := by decide +kernel
theorem d_Mod_statement_109 : decode b_Mod_statement 109 = .ok (.getfield 31, 3) := by decide +kernel
theorem d_Mod_statement_112 : decode b_Mod_statement 112 = .ok (.iconst 1, 1) := by decide +kernel
theorem d_Mod_statement_113 : decode b_Mod_statement 113 = .ok (.iaload, 1) := by decide +kernel
theorem d_Mod_statement_114 : decode b_Mod_statement 114 = .ok (.iastore, 1) := by decide +kernel
theorem d_Mod_statement_115 : decode b_Mod_statement 115 = .ok (.iconst 1, 1) := by decide +kernel
theorem d_Mod_statement_116 : decode b_Mod_statement 116 = .ok (.ireturn, 1) := by decide +kernel
theorem d_Mod_statement_117 : decode b_Mod_statement 117 = .ok (.aload_n 0, 1) := by decide +kernel
theorem d_Mod_statement_118 : decode b_Mod_statement 118 = .ok (.bipush 115, 2) := by decide +kernel
theorem d_Mod_statement_120 : decode b_Mod_statement 120 = .ok (.invokevirtual 75, 3) := by decide +kernel
theorem d_Mod_statement_123 : decode b_Mod_statement 123 = .ok (.ifCond .ne 5, 3) := by decide +kernel
theorem d_Mod_statement_126 : decode b_Mod_statement 126 = .ok (.iconst (-1), 1) := by decide +kernel
theorem d_Mod_statement_127 : decode b_Mod_statement 127 = .ok (.ireturn, 1) := by decide +kernel
theorem d_Mod_statement_128 : decode b_Mod_statement 128 = .ok (.aload_n 0, 1) := by decide +kernel
theorem d_Mod_statement_129 : decode b_Mod_statement 129 = .ok (.getfield 72, 3) := by decide +kernel
theorem d_Mod_statement_132 : decode b_Mod_statement 132 = .ok (.aload_n 0, 1) := by decide +kernel
theorem d_Mod_statement_133 : decode b_Mod_statement 133 = .ok (.getfield 69, 3) := by decide +kernel
theorem d_Mod_statement_136 : decode b_Mod_statement 136 = .ok (.if_icmp .ge 32, 3) := by decide +kernel
theorem d_Mod_statement_139 : decode b_Mod_statement 139 = .ok (.aload_n 0, 1) := by decide +kernel
theorem d_Mod_statement_140 : decode b_Mod_statement 140 = .ok (.getfield 28, 3) := by decide +kernel
theorem d_Mod_statement_143 : decode b_Mod_statement 143 = .ok (.aload_n 0, 1) := by decide +kernel
theorem d_Mod_statement_144 : decode b_Mod_statement 144 = .ok (.getfield 72, 3) := by decide +kernel
theorem d_Mod_statement_147 : decode b_Mod_statement 147 = .ok (.iaload, 1) := by decide +kernel
theorem d_Mod_statement_148 : decode b_Mod_statement 148 = .ok (.ifCond .le 20, 3) := by decide +kernel
theorem d_Mod_statement_151 : decode b_Mod_statement 151 = .ok (.ldc 87, 2) := by decide +kernel
theorem d_Mod_statement_153 : decode b_Mod_statement 153 = .ok (.aload_n 0, 1) := by decide +kernel
theorem d_Mod_statement_154 : decode b_Mod_statement 154 = .ok (.getfield 28, 3) := by decide +kernel
theorem d_Mod_statement_157 : decode b_Mod_statement 157 = .ok (.aload_n 0, 1) := by decide +kernel
theorem d_Mod_statement_158 : decode b_Mod_statement 158 = .ok (.getfield 72, 3) := by decide +kernel
theorem d_Mod_statement_161 : decode b_Mod_statement 161 = .ok (.iaload, 1) := by decide +kernel
theorem d_Mod_statement_162 : decode b_Mod_statement 162 = .ok (.invokevirtual 89, 3) := by decide +kernel
theorem d_Mod_statement_165 : decode b_Mod_statement 165 = .ok (.goto 4, 3) := by decide +kernel
theorem d_Mod_statement_168 : decode b_Mod_statement 168 = .ok (.iconst (-1), 1) := by decide +kernel
theorem d_Mod_statement_169 : decode b_Mod_statement 169 = .ok (.istore_n 2, 1) := by decide +kernel
theorem d_Mod_statement_170 : decode b_Mod_statement 170 = .ok (.iload_n 2, 1) := by decide +kernel
theorem d_Mod_statement_171 : decode b_Mod_statement 171 = .ok (.ifCond .ge 5, 3) := by decide +kernel
theorem d_Mod_statement_174 : decode b_Mod_statement 174 = .ok (.iconst (-1), 1) := by decide +kernel
theorem d_Mod_statement_175 : decode b_Mod_statement 175 = .ok (.ireturn, 1) := by decide +kernel
theorem d_Mod_statement_176 : decode b_Mod_statement 176 = .ok (.aload_n 0, 1) := by decide +kernel
theorem d_Mod_statement_177 : decode b_Mod_statement 177 = .ok (.dup, 1) := by decide +kernel
theorem d_Mod_statement_178 : decode b_Mod_statement 178 = .ok (.getfield 72, 3) := by decide +kernel
theorem d_Mod_statement_181 : decode b_Mod_statement 181 = .ok (.iconst 1, 1) := by decide +kernel
theorem d_Mod_statement_182 : decode b_Mod_statement 182 = .ok (.iadd, 1) := by decide +kernel
theorem d_Mod_statement_183 : decode b_Mod_statement 183 = .ok (.putfield 72, 3) := by decide +kernel
theorem d_Mod_statement_186 : decode b_Mod_statement 186 = .ok (.aload_n 0, 1) := by decide +kernel
theorem d_Mod_statement_187 : decode b_Mod_statement 187 = .ok (.iconst 0, 1) := by decide +kernel
theorem d_Mod_statement_188 : decode b_Mod_statement 188 = .ok (.iconst 0, 1) := by decide +kernel
theorem d_Mod_statement_189 : decode b_Mod_statement 189 = .ok (.invokevirtual 83, 3) := by decide +kernel
theorem d_Mod_statement_192 : decode b_Mod_statement 192 = .ok (.ifCond .eq 21, 3) := by decide +kernel
theorem d_Mod_statement_195 : decode b_Mod_statement 195 = .ok (.aload_n 0, 1) := by decide +kernel
theorem d_Mod_statement_196 : decode b_Mod_statement 196 = .ok (.iconst 1, 1) := by decide +kernel
theorem d_Mod_statement_197 : decode b_Mod_statement 197 = .ok (.iconst 0, 1) := by decide +kernel
theorem d_Mod_statement_198 : decode b_Mod_statement 198 = .ok (.invokevirtual 83, 3) := by decide +kernel
theorem d_Mod_statement_201 : decode b_Mod_statement 201 = .ok (.ifCond .eq 12, 3) := by decide +kernel
theorem d_Mod_statement_204 : decode b_Mod_statement 204 = .ok (.aload_n 0, 1) := by decide +kernel
theorem d_Mod_statement_205 : decode b_Mod_statement 205 = .ok (.iconst 2, 1) := by decide +kernel
theorem d_Mod_statement_206 : decode b_Mod_statement 206 = .ok (.iconst 1, 1) := by decide +kernel
theorem d_Mod_statement_207 : decode b_Mod_statement 207 = .ok (.invokevirtual 83, 3) := by decide +kernel
theorem d_Mod_statement_210 : decode b_Mod_statement 210 = .ok (.ifCond .ne 5, 3) := by decide +kernel
theorem d_Mod_statement_213 : decode b_Mod_statement 213 = .ok (.iconst (-1), 1) := by decide +kernel
theorem d_Mod_statement_214 : decode b_Mod_statement 214 = .ok (.ireturn, 1) := by decide +kernel
theorem d_Mod_statement_215 : decode b_Mod_statement 215 = .ok (.iload_n 1, 1) := by decide +kernel
theorem d_Mod_statement_216 : decode b_Mod_statement 216 = .ok (.ifCond .ne 5, 3) := by decide +kernel
theorem d_Mod_statement_219 : decode b_Mod_statement 219 = .ok (.iconst 1, 1) := by decide +kernel
theorem d_Mod_statement_220 : decode b_Mod_statement 220 = .ok (.ireturn, 1) := by decide +kernel
theorem d_Mod_statement_221 : decode b_Mod_statement 221 = .ok (.aload_n 0, 1) := by decide +kernel
theorem d_Mod_statement_222 : decode b_Mod_statement 222 = .ok (.getfield 31, 3) := by decide +kernel
theorem d_Mod_statement_225 : decode b_Mod_statement 225 = .ok (.iconst 0, 1) := by decide +kernel
theorem d_Mod_statement_226 : decode b_Mod_statement 226 = .ok (.iaload, 1) := by decide +kernel
theorem d_Mod_statement_227 : decode b_Mod_statement 227 = .ok (.ifCond .ne 12, 3) := by decide +kernel
theorem d_Mod_statement_230 : decode b_Mod_statement 230 = .ok (.aload_n 0, 1) := by decide +kernel
theorem d_Mod_statement_231 : decode b_Mod_statement 231 = .ok (.getfield 31, 3) := by decide +kernel
theorem d_Mod_statement_234 : decode b_Mod_statement 234 = .ok (.iconst 1, 1) := by decide +kernel
theorem d_Mod_statement_235 : decode b_Mod_statement 235 = .ok (.iaload, 1) := by decide +kernel
theorem d_Mod_statement_236 : decode b_Mod_statement 236 = .ok (.ifCond .eq 35, 3) := by decide +kernel
theorem d_Mod_statement_239 : decode b_Mod_statement 239 = .ok (.aload_n 0, 1) := by decide +kernel
theorem d_Mod_statement_240 : decode b_Mod_statement 240 = .ok (.aload_n 0, 1) := by decide +kernel
theorem d_Mod_statement_241 : decode b_Mod_statement 241 = .ok (.getfield 31, 3) := by decide +kernel
theorem d_Mod_statement_244 : decode b_Mod_statement 244 = .ok (.iconst 0, 1) := by decide +kernel
theorem d_Mod_statement_245 : decode b_Mod_statement 245 = .ok (.iaload, 1) := by decide +kernel
theorem d_Mod_statement_246 : decode b_Mod_statement 246 = .ok (.aload_n 0, 1) := by decide +kernel
theorem d_Mod_statement_247 : decode b_Mod_statement 247 = .ok (.getfield 31, 3) := by decide +kernel
theorem d_Mod_statement_250 : decode b_Mod_statement 250 = .ok (.iconst 1, 1) := by decide +kernel
theorem d_Mod_statement_251 : decode b_Mod_statement 251 = .ok (.iaload, 1) := by decide +kernel
theorem d_Mod_statement_252 : decode b_Mod_statement 252 = .ok (.aload_n 0, 1) := by decide +kernel
theorem d_Mod_statement_253 : decode b_Mod_statement 253 = .ok (.getfield 58, 3) := by decide +kernel
theorem d_Mod_statement_256 : decode b_Mod_statement 256 = .ok (.invokevirtual 94, 3) := by decide +kernel
theorem d_Mod_statement_259 : decode b_Mod_statement 259 = .ok (.ifCond .ne 12, 3) := by decide +kernel
theorem d_Mod_statement_262 : decode b_Mod_statement 262 = .ok (.aload_n 0, 1) := by decide +kernel
theorem d_Mod_statement_263 : decode b_Mod_statement 263 = .ok (.getfield 58, 3) := by decide +kernel
theorem d_Mod_statement_266 : decode b_Mod_statement 266 = .ok (.bipush 6, 2) := by decide +kernel
theorem d_Mod_statement_268 : decode b_Mod_statement 268 = .ok (.if_icmp .ne 5, 3) := by decide +kernel
theorem d_Mod_statement_271 : decode b_Mod_statement 271 = .ok (.iconst 0, 1) := by decide +kernel
theorem d_Mod_statement_272 : decode b_Mod_statement 272 = .ok (.ireturn, 1) := by decide +kernel
theorem d_Mod_statement_273 : decode b_Mod_statement 273 = .ok (.aload_n 0, 1) := by decide +kernel
theorem d_Mod_statement_274 : decode b_Mod_statement 274 = .ok (.getfield 7, 3) := by decide +kernel
theorem d_Mod_statement_277 : decode b_Mod_statement 277 = .ok (.aload_n 0, 1) := by decide +kernel
theorem d_Mod_statement_278 : decode b_Mod_statement 278 = .ok (.getfield 58, 3) := by decide +kernel
theorem d_Mod_statement_281 : decode b_Mod_statement 281 = .ok (.iload_n 2, 1) := by decide +kernel
theorem d_Mod_statement_282 : decode b_Mod_statement 282 = .ok (.iastore, 1) := by decide +kernel
theorem d_Mod_statement_283 : decode b_Mod_statement 283 = .ok (.aload_n 0, 1) := by decide +kernel
theorem d_Mod_statement_284 : decode b_Mod_statement 284 = .ok (.getfield 13, 3) := by decide +kernel
theorem d_Mod_statement_287 : decode b_Mod_statement 287 = .ok (.aload_n 0, 1) := by decide +kernel
theorem d_Mod_statement_288 : decode b_Mod_statement 288 = .ok (.getfield 58, 3) := by decide +kernel
theorem d_Mod_statement_291 : decode b_Mod_statement 291 = .ok (.aload_n 0, 1) := by decide +kernel
theorem d_Mod_statement_292 : decode b_Mod_statement 292 = .ok (.getfield 31, 3) := by decide +kernel
theorem d_Mod_statement_295 : decode b_Mod_statement 295 = .ok (.iconst 0, 1) := by decide +kernel
theorem d_Mod_statement_296 : decode b_Mod_statement 296 = .ok (.iaload, 1) := by decide +kernel
theorem d_Mod_statement_297 : decode b_Mod_statement 297 = .ok (.iastore, 1) := by decide +kernel
theorem d_Mod_statement_298 : decode b_Mod_statement 298 = .ok (.aload_n 0, 1) := by decide +kernel
theorem d_Mod_statement_299 : decode b_Mod_statement 299 = .ok (.getfield 16, 3) := by decide +kernel
theorem d_Mod_statement_302 : decode b_Mod_statement 302 = .ok (.aload_n 0, 1) := by decide +kernel
theorem d_Mod_statement_303 : decode b_Mod_statement 303 = .ok (.getfield 58, 3) := by decide +kernel
theorem d_Mod_statement_306 : decode b_Mod_statement 306 = .ok (.aload_n 0, 1) := by decide +kernel
theorem d_Mod_statement_307 : decode b_Mod_statement 307 = .ok (.getfield 31, 3) := by decide +kernel
theorem d_Mod_statement_310 : decode b_Mod_statement 310 = .ok (.iconst 1, 1) := by decide +kernel
theorem d_Mod_statement_311 : decode b_Mod_statement 311 = .ok (.iaload, 1) := by decide +kernel
theorem d_Mod_statement_312 : decode b_Mod_statement 312 = .ok (.iastore, 1) := by decide +kernel
theorem d_Mod_statement_313 : decode b_Mod_statement 313 = .ok (.aload_n 0, 1) := by decide +kernel
theorem d_Mod_statement_314 : decode b_Mod_statement 314 = .ok (.getfield 19, 3) := by decide +kernel
theorem d_Mod_statement_317 : decode b_Mod_statement 317 = .ok (.aload_n 0, 1) := by decide +kernel
theorem d_Mod_statement_318 : decode b_Mod_statement 318 = .ok (.dup, 1) := by decide +kernel
theorem d_Mod_statement_319 : decode b_Mod_statement 319 = .ok (.getfield 58, 3) := by decide +kernel
theorem d_Mod_statement_322 : decode b_Mod_statement 322 = .ok (.dup_x1, 1) := by decide +kernel
theorem d_Mod_statement_323 : decode b_Mod_statement 323 = .ok (.iconst 1, 1) := by decide +kernel
theorem d_Mod_statement_324 : decode b_Mod_statement 324 = .ok (.iadd, 1) := by decide +kernel
theorem d_Mod_statement_325 : decode b_Mod_statement 325 = .ok (.putfield 58, 3) := by decide +kernel
theorem d_Mod_statement_328 : decode b_Mod_statement 328 = .ok (.aload_n 0, 1) := by decide +kernel
theorem d_Mod_statement_329 : decode b_Mod_statement 329 = .ok (.getfield 31, 3) := by decide +kernel
theorem d_Mod_statement_332 : decode b_Mod_statement 332 = .ok (.iconst 2, 1) := by decide +kernel
theorem d_Mod_statement_333 : decode b_Mod_statement 333 = .ok (.iaload, 1) := by decide +kernel
theorem d_Mod_statement_334 : decode b_Mod_statement 334 = .ok (.iastore, 1) := by decide +kernel
theorem d_Mod_statement_335 : decode b_Mod_statement 335 = .ok (.iconst 1, 1) := by decide +kernel
theorem d_Mod_statement_336 : decode b_Mod_statement 336 = .ok (.ireturn, 1) := by decide +kernel
theorem d_Mod_town_0 : decode b_Mod_town 0 = .ok (.aload_n 0, 1) := by decide +kernel
theorem d_Mod_town_1 : decode b_Mod_town 1 = .ok (.iconst 0, 1) := by decide +kernel
theorem d_Mod_town_2 : decode b_Mod_town 2 = .ok (.putfield 72, 3) := by decide +kernel
theorem d_Mod_town_5 : decode b_Mod_town 5 = .ok (.iconst 1, 1) := by decide +kernel
theorem d_Mod_town_6 : decode b_Mod_town 6 = .ok (.istore_n 1, 1) := by decide +kernel
theorem d_Mod_town_7 : decode b_Mod_town 7 = .ok (.iload_n 1, 1) := by decide +kernel
theorem d_Mod_town_8 : decode b_Mod_town 8 = .ok (.ifCond .eq 45, 3) := by decide +kernel
theorem d_Mod_town_11 : decode b_Mod_town 11 = .ok (.aload_n 0, 1) := by decide +kernel
theorem d_Mod_town_12 : decode b_Mod_town 12 = .ok (.iconst 0, 1) := by decide +kernel
theorem d_Mod_town_13 : decode b_Mod_town 13 = .ok (.invokevirtual 97, 3) := by decide +kernel
theorem d_Mod_town_16 : decode b_Mod_town 16 = .ok (.iconst 1, 1) := by decide +kernel
theorem d_Mod_town_17 : decode b_Mod_town 17 = .ok (.if_icmp .ne 16, 3) := by decide +kernel
theorem d_Mod_town_20 : decode b_Mod_town 20 = .ok (.aload_n 0, 1) := by decide +kernel
theorem d_Mod_town_21 : decode b_Mod_town 21 = .ok (.bipush 59, 2) := by decide +kernel
theorem d_Mod_town_23 : decode b_Mod_town 23 = .ok (.invokevirtual 75, 3) := by decide +kernel
theorem d_Mod_town_26 : decode b_Mod_town 26 = .ok (.ifCond .eq 7, 3) := by decide +kernel
theorem d_Mod_town_29 : decode b_Mod_town 29 = .ok (.iconst 1, 1) := by decide +kernel
theorem d_Mod_town_30 : decode b_Mod_town 30 = .ok (.goto 4, 3) := by decide +kernel
theorem d_Mod_town_33 : decode b_Mod_town 33 = .ok (.iconst 0, 1) := by decide +kernel
theorem d_Mod_town_34 : decode b_Mod_town 34 = .ok (.istore_n 1, 1) := by decide +kernel
theorem d_Mod_town_35 : decode b_Mod_town 35 = .ok (.iload_n 1, 1) := by decide +kernel
theorem d_Mod_town_36 : decode b_Mod_town 36 = .ok (.ifCond .eq (-29), 3) := by decide +kernel
theorem d_Mod_town_39 : decode b_Mod_town 39 = .ok (.aload_n 0, 1) := by decide +kernel
theorem d_Mod_town_40 : decode b_Mod_town 40 = .ok (.getfield 72, 3) := by decide +kernel
theorem d_Mod_town_43 : decode b_Mod_town 43 = .ok (.aload_n 0, 1) := by decide +kernel
theorem d_Mod_town_44 : decode b_Mod_town 44 = .ok (.getfield 69, 3) := by decide +kernel
theorem d_Mod_town_47 : decode b_Mod_town 47 = .ok (.if_icmp .ne (-40), 3) := by decide +kernel
theorem d_Mod_town_50 : decode b_Mod_town 50 = .ok (.goto 3, 3) := by decide +kernel
theorem d_Mod_town_53 : decode b_Mod_town 53 = .ok (.iload_n 1, 1) := by decide +kernel
theorem d_Mod_town_54 : decode b_Mod_town 54 = .ok (.ifCond .ne 17, 3) := by decide +kernel
theorem d_Mod_town_57 : decode b_Mod_town 57 = .ok (.aload_n 0, 1) := by decide +kernel
theorem d_Mod_town_58 : decode b_Mod_town 58 = .ok (.iconst 0, 1) := by decide +kernel
theorem d_Mod_town_59 : decode b_Mod_town 59 = .ok (.putfield 69, 3) := by decide +kernel
theorem d_Mod_town_62 : decode b_Mod_town 62 = .ok (.sipush (-1000), 3) := by decide +kernel
theorem d_Mod_town_65 : decode b_Mod_town 65 = .ok (.aload_n 0, 1) := by decide +kernel
theorem d_Mod_town_66 : decode b_Mod_town 66 = .ok (.getfield 72, 3) := by decide +kernel
theorem d_Mod_town_69 : decode b_Mod_town 69 = .ok (.isub, 1) := by decide +kernel
theorem d_Mod_town_70 : decode b_Mod_town 70 = .ok (.ireturn, 1) := by decide +kernel
theorem d_Mod_town_71 : decode b_Mod_town 71 = .ok (.aload_n 0, 1) := by decide +kernel
theorem d_Mod_town_72 : decode b_Mod_town 72 = .ok (.aload_n 0, 1) := by decide +kernel
theorem d_Mod_town_73 : decode b_Mod_town 73 = .ok (.getfield 43, 3) := by decide +kernel
theorem d_Mod_town_76 : decode b_Mod_town 76 = .ok (.invokevirtual 101, 3) := by decide +kernel
theorem d_Mod_town_79 : decode b_Mod_town 79 = .ok (.aload_n 0, 1) := by decide +kernel
theorem d_Mod_town_80 : decode b_Mod_town 80 = .ok (.iconst 0, 1) := by decide +kernel
theorem d_Mod_town_81 : decode b_Mod_town 81 = .ok (.putfield 72, 3) := by decide +kernel
theorem d_Mod_town_84 : decode b_Mod_town 84 = .ok (.iconst 0, 1) := by decide +kernel
theorem d_Mod_town_85 : decode b_Mod_town 85 = .ok (.istore_n 2, 1) := by decide +kernel
theorem d_Mod_town_86 : decode b_Mod_town 86 = .ok (.aload_n 0, 1) := by decide +kernel
theorem d_Mod_town_87 : decode b_Mod_town 87 = .ok (.getfield 72, 3) := by decide +kernel
theorem d_Mod_town_90 : decode b_Mod_town 90 = .ok (.aload_n 0, 1) := by decide +kernel
theorem d_Mod_town_91 : decode b_Mod_town 91 = .ok (.getfield 69, 3) := by decide +kernel
theorem d_Mod_town_94 : decode b_Mod_town 94 = .ok (.if_icmp .ge 48, 3) := by decide +kernel
theorem d_Mod_town_97 : decode b_Mod_town 97 = .ok (.aload_n 0, 1) := by decide +kernel
theorem d_Mod_town_98 : decode b_Mod_town 98 = .ok (.getfield 72, 3) := by decide +kernel
theorem d_Mod_town_101 : decode b_Mod_town 101 = .ok (.istore_n 3, 1) := by decide +kernel
theorem d_Mod_town_102 : decode b_Mod_town 102 = .ok (.aload_n 0, 1) := by decide +kernel
theorem d_Mod_town_103 : decode b_Mod_town 103 = .ok (.iconst 1, 1) := by decide +kernel
theorem d_Mod_town_104 : decode b_Mod_town 104 = .ok (.invokevirtual 97, 3) := by decide +kernel
theorem d_Mod_town_107 : decode b_Mod_town 107 = .ok (.ifCond .ne 22, 3) := by decide +kernel
theorem d_Mod_town_110 : decode b_Mod_town 110 = .ok (.aload_n 0, 1) := by decide +kernel
theorem d_Mod_town_111 : decode b_Mod_town 111 = .ok (.aload_n 0, 1) := by decide +kernel
theorem d_Mod_town_112 : decode b_Mod_town 112 = .ok (.getfield 43, 3) := by decide +kernel
theorem d_Mod_town_115 : decode b_Mod_town 115 = .ok (.invokevirtual 105, 3) := by decide +kernel
theorem d_Mod_town_118 : decode b_Mod_town 118 = .ok (.aload_n 0, 1) := by decide +kernel
theorem d_Mod_town_119 : decode b_Mod_town 119 = .ok (.iconst 0, 1) := by decide +kernel
theorem d_Mod_town_120 : decode b_Mod_town 120 = .ok (.putfield 69, 3) := by decide +kernel
theorem d_Mod_town_123 : decode b_Mod_town 123 = .ok (.sipush (-2000), 3) := by decide +kernel
theorem d_Mod_town_126 : decode b_Mod_town 126 = .ok (.iload_n 3, 1) := by decide +kernel
theorem d_Mod_town_127 : decode b_Mod_town 127 = .ok (.isub, 1) := by decide +kernel
theorem d_Mod_town_128 : decode b_Mod_town 128 = .ok (.ireturn, 1) := by decide +kernel
theorem d_Mod_town_129 : decode b_Mod_town 129 = .ok (.aload_n 0, 1) := by decide +kernel
theorem d_Mod_town_130 : decode b_Mod_town 130 = .ok (.bipush 59, 2) := by decide +kernel
theorem d_Mod_town_132 : decode b_Mod_town 132 = .ok (.invokevirtual 75, 3) := by decide +kernel
theorem d_Mod_town_135 : decode b_Mod_town 135 = .ok (.pop, 1) := by decide +kernel
theorem d_Mod_town_136 : decode b_Mod_town 136 = .ok (.iinc 2 1, 3) := by decide +kernel
theorem d_Mod_town_139 : decode b_Mod_town 139 = .ok (.goto (-53), 3) := by decide +kernel
theorem d_Mod_town_142 : decode b_Mod_town 142 = .ok (.aload_n 0, 1) := by decide +kernel
theorem d_Mod_town_143 : decode b_Mod_town 143 = .ok (.iconst 0, 1) := by decide +kernel
theorem d_Mod_town_144 : decode b_Mod_town 144 = .ok (.putfield 69, 3) := by decide +kernel
theorem d_Mod_town_147 : decode b_Mod_town 147 = .ok (.iload_n 2, 1) := by decide +kernel
theorem d_Mod_town_148 : decode b_Mod_town 148 = .ok (.ireturn, 1) := by decide +kernel
theorem d_Mod_side_0 : decode b_Mod_side 0 = .ok (.aload_n 0, 1) := by decide +kernel
theorem d_Mod_side_1 : decode b_Mod_side 1 = .ok (.getfield 13, 3) := by decide +kernel
theorem d_Mod_side_4 : decode b_Mod_side 4 = .ok (.iload_n 1, 1) := by decide +kernel
theorem d_Mod_side_5 : decode b_Mod_side 5 = .ok (.iaload, 1) := by decide +kernel
theorem d_Mod_side_6 : decode b_Mod_side 6 = .ok (.iload_n 2, 1) := by decide +kernel
theorem d_Mod_side_7 : decode b_Mod_side 7 = .ok (.imul, 1) := by decide +kernel
theorem d_Mod_side_8 : decode b_Mod_side 8 = .ok (.aload_n 0, 1) := by decide +kernel
theorem d_Mod_side_9 : decode b_Mod_side 9 = .ok (.getfield 16, 3) := by decide +kernel
theorem d_Mod_side_12 : decode b_Mod_side 12 = .ok (.iload_n 1, 1) := by decide +kernel
theorem d_Mod_side_13 : decode b_Mod_side 13 = .ok (.iaload, 1) := by decide +kernel
theorem d_Mod_side_14 : decode b_Mod_side 14 = .ok (.iload_n 3, 1) := by decide +kernel
theorem d_Mod_side_15 : decode b_Mod_side 15 = .ok (.imul, 1) := by decide +kernel
theorem d_Mod_side_16 : decode b_Mod_side 16 = .ok (.iadd, 1) := by decide +kernel
theorem d_Mod_side_17 : decode b_Mod_side 17 = .ok (.aload_n 0, 1) := by decide +kernel
theorem d_Mod_side_18 : decode b_Mod_side 18 = .ok (.getfield 19, 3) := by decide +kernel
theorem d_Mod_side_21 : decode b_Mod_side 21 = .ok (.iload_n 1, 1) := by decide +kernel
theorem d_Mod_side_22 : decode b_Mod_side 22 = .ok (.iaload, 1) := by decide +kernel
theorem d_Mod_side_23 : decode b_Mod_side 23 = .ok (.isub, 1) := by decide +kernel
theorem d_Mod_side_24 : decode b_Mod_side 24 = .ok (.istore 4, 2) := by decide +kernel
theorem d_Mod_side_26 : decode b_Mod_side 26 = .ok (.iload 4, 2) := by decide +kernel
theorem d_Mod_side_28 : decode b_Mod_side 28 = .ok (.ifCond .le 7, 3) := by decide +kernel
theorem d_Mod_side_31 : decode b_Mod_side 31 = .ok (.iconst 1, 1) := by decide +kernel
theorem d_Mod_side_32 : decode b_Mod_side 32 = .ok (.goto 13, 3) := by decide +kernel
theorem d_Mod_side_35 : decode b_Mod_side 35 = .ok (.iload 4, 2) := by decide +kernel
theorem d_Mod_side_37 : decode b_Mod_side 37 = .ok (.ifCond .ge 7, 3) := by decide +kernel
theorem d_Mod_side_40 : decode b_Mod_side 40 = .ok (.iconst (-1), 1) := by decide +kernel
theorem d_Mod_side_41 : decode b_Mod_side 41 = .ok (.goto 4, 3) := by decide +kernel
theorem d_Mod_side_44 : decode b_Mod_side 44 = .ok (.iconst 0, 1) := by decide +kernel
theorem d_Mod_side_45 : decode b_Mod_side 45 = .ok (.ireturn, 1) := by decide +kernel
theorem d_Mod_sideOfCrossing_0 : decode b_Mod_sideOfCrossing 0 = .ok (.aload_n 0, 1) := by decide +kernel
theorem d_Mod_sideOfCrossing_1 : decode b_Mod_sideOfCrossing 1 = .ok (.getfield 13, 3) := by decide +kernel
theorem d_Mod_sideOfCrossing_4 : decode b_Mod_sideOfCrossing 4 = .ok (.iload_n 2, 1) := by decide +kernel
theorem d_Mod_sideOfCrossing_5 : decode b_Mod_sideOfCrossing 5 = .ok (.iaload, 1) := by decide +kernel
theorem d_Mod_sideOfCrossing_6 : decode b_Mod_sideOfCrossing 6 = .ok (.aload_n 0, 1) := by decide +kernel
theorem d_Mod_sideOfCrossing_7 : decode b_Mod_sideOfCrossing 7 = .ok (.getfield 16, 3) := by decide +kernel
theorem d_Mod_sideOfCrossing_10 : decode b_Mod_sideOfCrossing 10 = .ok (.iload_n 3, 1) := by decide +kernel
theorem d_Mod_sideOfCrossing_11 : decode b_Mod_sideOfCrossing 11 = .ok (.iaload, 1) := by decide +kernel
theorem d_Mod_sideOfCrossing_12 : decode b_Mod_sideOfCrossing 12 = .ok (.imul, 1) := by decide +kernel
theorem d_Mod_sideOfCrossing_13 : decode b_Mod_sideOfCrossing 13 = .ok (.aload_n 0, 1) := by decide +kernel
theorem d_Mod_sideOfCrossing_14 : decode b_Mod_sideOfCrossing 14 = .ok (.getfield 13, 3) := by decide +kernel
theorem d_Mod_sideOfCrossing_17 : decode b_Mod_sideOfCrossing 17 = .ok (.iload_n 3, 1) := by decide +kernel
theorem d_Mod_sideOfCrossing_18 : decode b_Mod_sideOfCrossing 18 = .ok (.iaload, 1) := by decide +kernel
theorem d_Mod_sideOfCrossing_19 : decode b_Mod_sideOfCrossing 19 = .ok (.aload_n 0, 1) := by decide +kernel
theorem d_Mod_sideOfCrossing_20 : decode b_Mod_sideOfCrossing 20 = .ok (.getfield 16, 3) := by decide +kernel
theorem d_Mod_sideOfCrossing_23 : decode b_Mod_sideOfCrossing 23 = .ok (.iload_n 2, 1) := by decide +kernel
theorem d_Mod_sideOfCrossing_24 : decode b_Mod_sideOfCrossing 24 = .ok (.iaload, 1) := by decide +kernel
theorem d_Mod_sideOfCrossing_25 : decode b_Mod_sideOfCrossing 25 = .ok (.imul, 1) := by decide +kernel
theorem d_Mod_sideOfCrossing_26 : decode b_Mod_sideOfCrossing 26 = .ok (.isub, 1) := by decide +kernel
theorem d_Mod_sideOfCrossing_27 : decode b_Mod_sideOfCrossing 27 = .ok (.istore 4, 2) := by decide +kernel
theorem d_Mod_sideOfCrossing_29 : decode b_Mod_sideOfCrossing 29 = .ok (.aload_n 0, 1) := by decide +kernel
theorem d_Mod_sideOfCrossing_30 : decode b_Mod_sideOfCrossing 30 = .ok (.getfield 19, 3) := by decide +kernel
theorem d_Mod_sideOfCrossing_33 : decode b_Mod_sideOfCrossing 33 = .ok (.iload_n 2, 1) := by decide +kernel
theorem d_Mod_sideOfCrossing_34 : decode b_Mod_sideOfCrossing 34 = .ok (.iaload, 1) := by decide +kernel
theorem d_Mod_sideOfCrossing_35 : decode b_Mod_sideOfCrossing 35 = .ok (.aload_n 0, 1) := by decide +kernel
theorem d_Mod_sideOfCrossing_36 : decode b_Mod_sideOfCrossing 36 = .ok (.getfield 16, 3) := by decide +kernel
theorem d_Mod_sideOfCrossing_39 : decode b_Mod_sideOfCrossing 39 = .ok (.iload_n 3, 1) := by decide +kernel
theorem d_Mod_sideOfCrossing_40 : decode b_Mod_sideOfCrossing 40 = .ok (.iaload, 1) := by decide +kernel
theorem d_Mod_sideOfCrossing_41 : decode b_Mod_sideOfCrossing 41 = .ok (.imul, 1) := by decide +kernel
theorem d_Mod_sideOfCrossing_42 : decode b_Mod_sideOfCrossing 42 = .ok (.aload_n 0, 1) := by decide +kernel
theorem d_Mod_sideOfCrossing_43 : decode b_Mod_sideOfCrossing 43 = .ok (.getfield 19, 3) := by decide +kernel
theorem d_Mod_sideOfCrossing_46 : decode b_Mod_sideOfCrossing 46 = .ok (.iload_n 3, 1) := by decide +kernel
theorem d_Mod_sideOfCrossing_47 : decode b_Mod_sideOfCrossing 47 = .ok (.iaload, 1) := by decide +kernel
theorem d_Mod_sideOfCrossing_48 : decode b_Mod_sideOfCrossing 48 = .ok (.aload_n 0, 1) := by decide +kernel
theorem d_Mod_sideOfCrossing_49 : decode b_Mod_sideOfCrossing 49 = .ok (.getfield 16, 3) := by decide +kernel
theorem d_Mod_sideOfCrossing_52 : decode b_Mod_sideOfCrossing 52 = .ok (.iload_n 2, 1) := by decide +kernel
theorem d_Mod_sideOfCrossing_53 : decode b_Mod_sideOfCrossing 53 = .ok (.iaload, 1) := by decide +kernel
theorem d_Mod_sideOfCrossing_54 : decode b_Mod_sideOfCrossing 54 = .ok (.imul, 1) := by decide +kernel
theorem d_Mod_sideOfCrossing_55 : decode b_Mod_sideOfCrossing 55 = .ok (.isub, 1) := by decide +kernel
theorem d_Mod_sideOfCrossing_56 : decode b_Mod_sideOfCrossing 56 = .ok (.istore 5, 2) := by decide +kernel
theorem d_Mod_sideOfCrossing_58 : decode b_Mod_sideOfCrossing 58 = .ok (.aload_n 0, 1) := by decide +kernel
theorem d_Mod_sideOfCrossing_59 : decode b_Mod_sideOfCrossing 59 = .ok (.getfield 13, 3) := by decide +kernel
theorem d_Mod_sideOfCrossing_62 : decode b_Mod_sideOfCrossing 62 = .ok (.iload_n 2, 1) := by decide +kernel
theorem d_Mod_sideOfCrossing_63 : decode b_Mod_sideOfCrossing 63 = .ok (.iaload, 1) := by decide +kernel
theorem d_Mod_sideOfCrossing_64 : decode b_Mod_sideOfCrossing 64 = .ok (.aload_n 0, 1) := by decide +kernel
theorem d_Mod_sideOfCrossing_65 : decode b_Mod_sideOfCrossing 65 = .ok (.getfield 19, 3) := by decide +kernel
theorem d_Mod_sideOfCrossing_68 : decode b_Mod_sideOfCrossing 68 = .ok (.iload_n 3, 1) := by decide +kernel
theorem d_Mod_sideOfCrossing_69 : decode b_Mod_sideOfCrossing 69 = .ok (.iaload, 1) := by decide +kernel
theorem d_Mod_sideOfCrossing_70 : decode b_Mod_sideOfCrossing 70 = .ok (.imul, 1) := by decide +kernel
theorem d_Mod_sideOfCrossing_71 : decode b_Mod_sideOfCrossing 71 = .ok (.aload_n 0, 1) := by decide +kernel
theorem d_Mod_sideOfCrossing_72 : decode b_Mod_sideOfCrossing 72 = .ok (.getfield 13, 3) := by decide +kernel
theorem d_Mod_sideOfCrossing_75 : decode b_Mod_sideOfCrossing 75 = .ok (.iload_n 3, 1) := by decide +kernel
theorem d_Mod_sideOfCrossing_76 : decode b_Mod_sideOfCrossing 76 = .ok (.iaload, 1) := by decide +kernel
theorem d_Mod_sideOfCrossing_77 : decode b_Mod_sideOfCrossing 77 = .ok (.aload_n 0, 1) := by decide +kernel
theorem d_Mod_sideOfCrossing_78 : decode b_Mod_sideOfCrossing 78 = .ok (.getfield 19, 3) := by decide +kernel
theorem d_Mod_sideOfCrossing_81 : decode b_Mod_sideOfCrossing 81 = .ok (.iload_n 2, 1) := by decide +kernel
theorem d_Mod_sideOfCrossing_82 : decode b_Mod_sideOfCrossing 82 = .ok (.iaload, 1) := by decide +kernel
theorem d_Mod_sideOfCrossing_83 : decode b_Mod_sideOfCrossing 83 = .ok (.imul, 1) := by decide +kernel
theorem d_Mod_sideOfCrossing_84 : decode b_Mod_sideOfCrossing 84 = .ok (.isub, 1) := by decide +kernel
theorem d_Mod_sideOfCrossing_85 : decode b_Mod_sideOfCrossing 85 = .ok (.istore 6, 2) := by decide +kernel
theorem d_Mod_sideOfCrossing_87 : decode b_Mod_sideOfCrossing 87 = .ok (.aload_n 0, 1) := by decide +kernel
theorem d_Mod_sideOfCrossing_88 : decode b_Mod_sideOfCrossing 88 = .ok (.getfield 13, 3) := by decide +kernel
theorem d_Mod_sideOfCrossing_91 : decode b_Mod_sideOfCrossing 91 = .ok (.iload_n 1, 1) := by decide +kernel
theorem d_Mod_sideOfCrossing_92 : decode b_Mod_sideOfCrossing 92 = .ok (.iaload, 1) := by decide +kernel
theorem d_Mod_sideOfCrossing_93 : decode b_Mod_sideOfCrossing 93 = .ok (.iload 5, 2) := by decide +kernel
theorem d_Mod_sideOfCrossing_95 : decode b_Mod_sideOfCrossing 95 = .ok (.imul, 1) := by decide +kernel
theorem d_Mod_sideOfCrossing_96 : decode b_Mod_sideOfCrossing 96 = .ok (.aload_n 0, 1) := by decide +kernel
theorem d_Mod_sideOfCrossing_97 : decode b_Mod_sideOfCrossing 97 = .ok (.getfield 16, 3) := by decide +kernel
theorem d_Mod_sideOfCrossing_100 : decode b_Mod_sideOfCrossing 100 = .ok (.iload_n 1, 1) := by decide +kernel
theorem d_Mod_sideOfCrossing_101 : decode b_Mod_sideOfCrossing 101 = .ok (.iaload, 1) := by decide +kernel
theorem d_Mod_sideOfCrossing_102 : decode b_Mod_sideOfCrossing 102 = .ok (.iload 6, 2) := by decide +kernel
theorem d_Mod_sideOfCrossing_104 : decode b_Mod_sideOfCrossing 104 = .ok (.imul, 1) := by decide +kernel
theorem d_Mod_sideOfCrossing_105 : decode b_Mod_sideOfCrossing 105 = .ok (.iadd, 1) := by decide +kernel
theorem d_Mod_sideOfCrossing_106 : decode b_Mod_sideOfCrossing 106 = .ok (.aload_n 0, 1) := by decide +kernel
theorem d_Mod_sideOfCrossing_107 : decode b_Mod_sideOfCrossing 107 = .ok (.getfield 19, 3) := by decide +kernel
theorem d_Mod_sideOfCrossing_110 : decode b_Mod_sideOfCrossing 110 = .ok (.iload_n 1, 1) := by decide +kernel
theorem d_Mod_sideOfCrossing_111 : decode b_Mod_sideOfCrossing 111 = .ok (.iaload, 1) := by decide +kernel
theorem d_Mod_sideOfCrossing_112 : decode b_Mod_sideOfCrossing 112 = .ok (.iload 4, 2) := by decide +kernel
theorem d_Mod_sideOfCrossing_114 : decode b_Mod_sideOfCrossing 114 = .ok (.imul, 1) := by decide +kernel
theorem d_Mod_sideOfCrossing_115 : decode b_Mod_sideOfCrossing 115 = .ok (.isub, 1) := by decide +kernel
theorem d_Mod_sideOfCrossing_116 : decode b_Mod_sideOfCrossing 116 = .ok (.istore 7, 2) := by decide +kernel
theorem d_Mod_sideOfCrossing_118 : decode b_Mod_sideOfCrossing 118 = .ok (.iload 4, 2) := by decide +kernel
theorem d_Mod_sideOfCrossing_120 : decode b_Mod_sideOfCrossing 120 = .ok (.ifCond .ge 8, 3) := by decide +kernel
theorem d_Mod_sideOfCrossing_123 : decode b_Mod_sideOfCrossing 123 = .ok (.iload 7, 2) := by decide +kernel
theorem d_Mod_sideOfCrossing_125 : decode b_Mod_sideOfCrossing 125 = .ok (.ineg, 1) := by decide +kernel
theorem d_Mod_sideOfCrossing_126 : decode b_Mod_sideOfCrossing 126 = .ok (.istore 7, 2) := by decide +kernel
theorem d_Mod_sideOfCrossing_128 : decode b_Mod_sideOfCrossing 128 = .ok (.iload 7, 2) := by decide +kernel
theorem d_Mod_sideOfCrossing_130 : decode b_Mod_sideOfCrossing 130 = .ok (.ifCond .le 7, 3) := by decide +kernel
theorem d_Mod_sideOfCrossing_133 : decode b_Mod_sideOfCrossing 133 = .ok (.iconst 1, 1) := by decide +kernel
theorem d_Mod_sideOfCrossing_134 : decode b_Mod_sideOfCrossing 134 = .ok (.goto 13, 3) := by decide +kernel
theorem d_Mod_sideOfCrossing_137 : decode b_Mod_sideOfCrossing 137 = .ok (.iload 7, 2) := by decide +kernel
theorem d_Mod_sideOfCrossing_139 : decode b_Mod_sideOfCrossing 139 = .ok (.ifCond .ge 7, 3) := by decide +kernel
theorem d_Mod_sideOfCrossing_142 : decode b_Mod_sideOfCrossing 142 = .ok (.iconst (-1), 1) := by decide +kernel
theorem d_Mod_sideOfCrossing_143 : decode b_Mod_sideOfCrossing 143 = .ok (.goto 4, 3) := by decide +kernel
theorem d_Mod_sideOfCrossing_146 : decode b_Mod_sideOfCrossing 146 = .ok (.iconst 0, 1) := by decide +kernel
theorem d_Mod_sideOfCrossing_147 : decode b_Mod_sideOfCrossing 147 = .ok (.ireturn, 1) := by decide +kernel
theorem d_Mod_isFirst_0 : decode b_Mod_isFirst 0 = .ok (.iconst 0, 1) := by decide +kernel
theorem d_Mod_isFirst_1 : decode b_Mod_isFirst 1 = .ok (.istore_n 3, 1) := by decide +kernel
theorem d_Mod_isFirst_2 : decode b_Mod_isFirst 2 = .ok (.iload_n 3, 1) := by decide +kernel
theorem d_Mod_isFirst_3 : decode b_Mod_isFirst 3 = .ok (.iload_n 2, 1) := by decide +kernel
theorem d_Mod_isFirst_4 : decode b_Mod_isFirst 4 = .ok (.if_icmp .ge 26, 3) := by decide +kernel
theorem d_Mod_isFirst_7 : decode b_Mod_isFirst 7 = .ok (.iload_n 3, 1) := by decide +kernel
theorem d_Mod_isFirst_8 : decode b_Mod_isFirst 8 = .ok (.iload_n 1, 1) := by decide +kernel
theorem d_Mod_isFirst_9 : decode b_Mod_isFirst 9 = .ok (.if_icmp .eq 15, 3) := by decide +kernel
theorem d_Mod_isFirst_12 : decode b_Mod_isFirst 12 = .ok (.aload_n 0, 1) := by decide +kernel
theorem d_Mod_isFirst_13 : decode b_Mod_isFirst 13 = .ok (.iload_n 3, 1) := by decide +kernel
theorem d_Mod_isFirst_14 : decode b_Mod_isFirst 14 = .ok (.iload_n 1, 1) := by decide +kernel
theorem d_Mod_isFirst_15 : decode b_Mod_isFirst 15 = .ok (.iload_n 2, 1) := by decide +kernel
theorem d_Mod_isFirst_16 : decode b_Mod_isFirst 16 = .ok (.invokevirtual 108, 3) := by decide +kernel
theorem d_Mod_isFirst_19 : decode b_Mod_isFirst 19 = .ok (.ifCond .ne 5, 3) := by decide +kernel
theorem d_Mod_isFirst_22 : decode b_Mod_isFirst 22 = .ok (.iconst 0, 1) := by decide +kernel
theorem d_Mod_isFirst_23 : decode b_Mod_isFirst 23 = .ok (.ireturn, 1) := by decide +kernel
theorem d_Mod_isFirst_24 : decode b_Mod_isFirst 24 = .ok (.iinc 3 1, 3) := by decide +kernel
theorem d_Mod_isFirst_27 : decode b_Mod_isFirst 27 = .ok (.goto (-25), 3) := by decide +kernel
theorem d_Mod_isFirst_30 : decode b_Mod_isFirst 30 = .ok (.iconst 1, 1) := by decide +kernel
theorem d_Mod_isFirst_31 : decode b_Mod_isFirst 31 = .ok (.ireturn, 1) := by decide +kernel
theorem d_Mod_along_0 : decode b_Mod_along 0 = .ok (.aload_n 0, 1) := by decide +kernel
theorem d_Mod_along_1 : decode b_Mod_along 1 = .ok (.getfield 16, 3) := by decide +kernel
theorem d_Mod_along_4 : decode b_Mod_along 4 = .ok (.iload_n 1, 1) := by decide +kernel
theorem d_Mod_along_5 : decode b_Mod_along 5 = .ok (.iaload, 1) := by decide +kernel
theorem d_Mod_along_6 : decode b_Mod_along 6 = .ok (.aload_n 0, 1) := by decide +kernel
theorem d_Mod_along_7 : decode b_Mod_along 7 = .ok (.getfield 13, 3) := by decide +kernel
theorem d_Mod_along_10 : decode b_Mod_along 10 = .ok (.iload_n 2, 1) := by decide +kernel
theorem d_Mod_along_11 : decode b_Mod_along 11 = .ok (.iaload, 1) := by decide +kernel
theorem d_Mod_along_12 : decode b_Mod_along 12 = .ok (.imul, 1) := by decide +kernel
theorem d_Mod_along_13 : decode b_Mod_along 13 = .ok (.aload_n 0, 1) := by decide +kernel
theorem d_Mod_along_14 : decode b_Mod_along 14 = .ok (.getfield 13, 3) := by decide +kernel
theorem d_Mod_along_17 : decode b_Mod_along 17 = .ok (.iload_n 1, 1) := by decide +kernel
theorem d_Mod_along_18 : decode b_Mod_along 18 = .ok (.iaload, 1) := by decide +kernel
theorem d_Mod_along_19 : decode b_Mod_along 19 = .ok (.aload_n 0, 1) := by decide +kernel
theorem d_Mod_along_20 : decode b_Mod_along 20 = .ok (.getfield 16, 3) := by decide +kernel
theorem d_Mod_along_23 : decode b_Mod_along 23 = .ok (.iload_n 2, 1) := by decide +kernel
theorem d_Mod_along_24 : decode b_Mod_along 24 = .ok (.iaload, 1) := by decide +kernel
theorem d_Mod_along_25 : decode b_Mod_along 25 = .ok (.imul, 1) := by decide +kernel
theorem d_Mod_along_26 : decode b_Mod_along 26 = .ok (.isub, 1) := by decide +kernel
theorem d_Mod_along_27 : decode b_Mod_along 27 = .ok (.istore 4, 2) := by decide +kernel
theorem d_Mod_along_29 : decode b_Mod_along 29 = .ok (.iload_n 3, 1) := by decide +kernel
theorem d_Mod_along_30 : decode b_Mod_along 30 = .ok (.ifCond .eq 8, 3) := by decide +kernel
theorem d_Mod_along_33 : decode b_Mod_along 33 = .ok (.iload 4, 2) := by decide +kernel
theorem d_Mod_along_35 : decode b_Mod_along 35 = .ok (.ineg, 1) := by decide +kernel
theorem d_Mod_along_36 : decode b_Mod_along 36 = .ok (.istore 4, 2) := by decide +kernel
theorem d_Mod_along_38 : decode b_Mod_along 38 = .ok (.iload 4, 2) := by decide +kernel
theorem d_Mod_along_40 : decode b_Mod_along 40 = .ok (.ifCond .le 7, 3) := by decide +kernel
theorem d_Mod_along_43 : decode b_Mod_along 43 = .ok (.iconst 1, 1) := by decide +kernel
theorem d_Mod_along_44 : decode b_Mod_along 44 = .ok (.goto 13, 3) := by decide +kernel
theorem d_Mod_along_47 : decode b_Mod_along 47 = .ok (.iload 4, 2) := by decide +kernel
theorem d_Mod_along_49 : decode b_Mod_along 49 = .ok (.ifCond .ge 7, 3) := by decide +kernel
theorem d_Mod_along_52 : decode b_Mod_along 52 = .ok (.iconst (-1), 1) := by decide +kernel
theorem d_Mod_along_53 : decode b_Mod_along 53 = .ok (.goto 4, 3) := by decide +kernel
theorem d_Mod_along_56 : decode b_Mod_along 56 = .ok (.iconst 0, 1) := by decide +kernel
theorem d_Mod_along_57 : decode b_Mod_along 57 = .ok (.ireturn, 1) := by decide +kernel
theorem d_Mod_lay_0 : decode b_Mod_lay 0 = .ok (.aload_n 0, 1) := by decide +kernel
theorem d_Mod_lay_1 : decode b_Mod_lay 1 = .ok (.iconst 0, 1) := by decide +kernel
theorem d_Mod_lay_2 : decode b_Mod_lay 2 = .ok (.putfield 112, 3) := by decide +kernel
theorem d_Mod_lay_5 : decode b_Mod_lay 5 = .ok (.aload_n 0, 1) := by decide +kernel
theorem d_Mod_lay_6 : decode b_Mod_lay 6 = .ok (.iconst 0, 1) := by decide +kernel
theorem d_Mod_lay_7 : decode b_Mod_lay 7 = .ok (.putfield 115, 3) := by decide +kernel
theorem d_Mod_lay_10 : decode b_Mod_lay 10 = .ok (.aload_n 0, 1) := by decide +kernel
theorem d_Mod_lay_11 : decode b_Mod_lay 11 = .ok (.iconst 0, 1) := by decide +kernel
theorem d_Mod_lay_12 : decode b_Mod_lay 12 = .ok (.putfield 118, 3) := by decide +kernel
theorem d_Mod_lay_15 : decode b_Mod_lay 15 = .ok (.iconst 0, 1) := by decide +kernel
theorem d_Mod_lay_16 : decode b_Mod_lay 16 = .ok (.istore_n 2, 1) := by decide +kernel
theorem d_Mod_lay_17 : decode b_Mod_lay 17 = .ok (.iload_n 2, 1) := by decide +kernel
theorem d_Mod_lay_18 : decode b_Mod_lay 18 = .ok (.sipush 128, 3) := by decide +kernel
theorem d_Mod_lay_21 : decode b_Mod_lay 21 = .ok (.if_icmp .ge 23, 3) := by decide +kernel
theorem d_Mod_lay_24 : decode b_Mod_lay 24 = .ok (.aload_n 0, 1) := by decide +kernel
theorem d_Mod_lay_25 : decode b_Mod_lay 25 = .ok (.getfield 46, 3) := by decide +kernel
theorem d_Mod_lay_28 : decode b_Mod_lay 28 = .ok (.iload_n 2, 1) := by decide +kernel
theorem d_Mod_lay_29 : decode b_Mod_lay 29 = .ok (.iconst 0, 1) := by decide +kernel
theorem d_Mod_lay_30 : decode b_Mod_lay 30 = .ok (.iastore, 1) := by decide +kernel
theorem d_Mod_lay_31 : decode b_Mod_lay 31 = .ok (.aload_n 0, 1) := by decide +kernel
theorem d_Mod_lay_32 : decode b_Mod_lay 32 = .ok (.getfield 49, 3) := by decide +kernel
theorem d_Mod_lay_35 : decode b_Mod_lay 35 = .ok (.iload_n 2, 1) := by decide +kernel
theorem d_Mod_lay_36 : decode b_Mod_lay 36 = .ok (.iconst 0, 1) := by decide +kernel
theorem d_Mod_lay_37 : decode b_Mod_lay 37 = .ok (.bastore, 1) := by decide +kernel
theorem d_Mod_lay_38 : decode b_Mod_lay 38 = .ok (.iinc 2 1, 3) := by decide +kernel
theorem d_Mod_lay_41 : decode b_Mod_lay 41 = .ok (.goto (-24), 3) := by decide +kernel
theorem d_Mod_lay_44 : decode b_Mod_lay 44 = .ok (.iload_n 1, 1) := by decide +kernel
theorem d_Mod_lay_45 : decode b_Mod_lay 45 = .ok (.ifCond .ne 17, 3) := by decide +kernel
theorem d_Mod_lay_48 : decode b_Mod_lay 48 = .ok (.aload_n 0, 1) := by decide +kernel
theorem d_Mod_lay_49 : decode b_Mod_lay 49 = .ok (.getfield 46, 3) := by decide +kernel
theorem d_Mod_lay_52 : decode b_Mod_lay 52 = .ok (.iconst 0, 1) := by decide +kernel
theorem d_Mod_lay_53 : decode b_Mod_lay 53 = .ok (.iconst 1, 1) := by decide +kernel
theorem d_Mod_lay_54 : decode b_Mod_lay 54 = .ok (.iastore, 1) := by decide +kernel
theorem d_Mod_lay_55 : decode b_Mod_lay 55 = .ok (.aload_n 0, 1) := by decide +kernel
theorem d_Mod_lay_56 : decode b_Mod_lay 56 = .ok (.getfield 49, 3) := by decide +kernel
theorem d_Mod_lay_59 : decode b_Mod_lay 59 = .ok (.iconst 0, 1) := by decide +kernel
theorem d_Mod_lay_60 : decode b_Mod_lay 60 = .ok (.iconst 1, 1) := by decide +kernel
theorem d_Mod_lay_61 : decode b_Mod_lay 61 = .ok (.bastore, 1) := by decide +kernel
theorem d_Mod_lay_62 : decode b_Mod_lay 62 = .ok (.iconst 0, 1) := by decide +kernel
theorem d_Mod_lay_63 : decode b_Mod_lay 63 = .ok (.istore_n 2, 1) := by decide +kernel
theorem d_Mod_lay_64 : decode b_Mod_lay 64 = .ok (.iload_n 2, 1) := by decide +kernel
theorem d_Mod_lay_65 : decode b_Mod_lay 65 = .ok (.iload_n 1, 1) := by decide +kernel
theorem d_Mod_lay_66 : decode b_Mod_lay 66 = .ok (.if_icmp .ge 115, 3) := by decide +kernel
theorem d_Mod_lay_69 : decode b_Mod_lay 69 = .ok (.iconst 0, 1) := by decide +kernel
theorem d_Mod_lay_70 : decode b_Mod_lay 70 = .ok (.istore_n 3, 1) := by decide +kernel
theorem d_Mod_lay_71 : decode b_Mod_lay 71 = .ok (.iload_n 3, 1) := by decide +kernel
theorem d_Mod_lay_72 : decode b_Mod_lay 72 = .ok (.iconst 2, 1) := by decide +kernel
theorem d_Mod_lay_73 : decode b_Mod_lay 73 = .ok (.if_icmp .ge 102, 3) := by decide +kernel
theorem d_Mod_lay_76 : decode b_Mod_lay 76 = .ok (.iconst 0, 1) := by decide +kernel
theorem d_Mod_lay_77 : decode b_Mod_lay 77 = .ok (.istore 4, 2) := by decide +kernel
theorem d_Mod_lay_79 : decode b_Mod_lay 79 = .ok (.iconst 0, 1) := by decide +kernel
theorem d_Mod_lay_80 : decode b_Mod_lay 80 = .ok (.istore 5, 2) := by decide +kernel
theorem d_Mod_lay_82 : decode b_Mod_lay 82 = .ok (.iload 5, 2) := by decide +kernel
theorem d_Mod_lay_84 : decode b_Mod_lay 84 = .ok (.iload_n 1, 1) := by decide +kernel
theorem d_Mod_lay_85 : decode b_Mod_lay 85 = .ok (.if_icmp .ge 44, 3) := by decide +kernel
theorem d_Mod_lay_88 : decode b_Mod_lay 88 = .ok (.iload 5, 2) := by decide +kernel
theorem d_Mod_lay_90 : decode b_Mod_lay 90 = .ok (.iload_n 2, 1) := by decide +kernel
theorem d_Mod_lay_91 : decode b_Mod_lay 91 = .ok (.if_icmp .eq 32, 3) := by decide +kernel
theorem d_Mod_lay_94 : decode b_Mod_lay 94 = .ok (.aload_n 0, 1) := by decide +kernel
theorem d_Mod_lay_95 : decode b_Mod_lay 95 = .ok (.iload 5, 2) := by decide +kernel
theorem d_Mod_lay_97 : decode b_Mod_lay 97 = .ok (.iload_n 2, 1) := by decide +kernel
theorem d_Mod_lay_98 : decode b_Mod_lay 98 = .ok (.iload_n 3, 1) := by decide +kernel
theorem d_Mod_lay_99 : decode b_Mod_lay 99 = .ok (.iconst 1, 1) := by decide +kernel
theorem d_Mod_lay_100 : decode b_Mod_lay 100 = .ok (.if_icmp .ne 7, 3) := by decide +kernel
theorem d_Mod_lay_103 : decode b_Mod_lay 103 = .ok (.iconst 1, 1) := by decide +kernel
theorem d_Mod_lay_104 : decode b_Mod_lay 104 = .ok (.goto 4, 3) := by decide +kernel
theorem d_Mod_lay_107 : decode b_Mod_lay 107 = .ok (.iconst 0, 1) := by decide +kernel
theorem d_Mod_lay_108 : decode b_Mod_lay 108 = .ok (.invokevirtual 121, 3) := by decide +kernel
theorem d_Mod_lay_111 : decode b_Mod_lay 111 = .ok (.ifCond .le 12, 3) := by decide +kernel
theorem d_Mod_lay_114 : decode b_Mod_lay 114 = .ok (.iload 4, 2) := by decide +kernel
theorem d_Mod_lay_116 : decode b_Mod_lay 116 = .ok (.iconst 1, 1) := by decide +kernel
theorem d_Mod_lay_117 : decode b_Mod_lay 117 = .ok (.iload 5, 2) := by decide +kernel
theorem d_Mod_lay_119 : decode b_Mod_lay 119 = .ok (.ishl, 1) := by decide +kernel
theorem d_Mod_lay_120 : decode b_Mod_lay 120 = .ok (.ior, 1) := by decide +kernel
theorem d_Mod_lay_121 : decode b_Mod_lay 121 = .ok (.istore 4, 2) := by decide +kernel
theorem d_Mod_lay_123 : decode b_Mod_lay 123 = .ok (.iinc 5 1, 3) := by decide +kernel
theorem d_Mod_lay_126 : decode b_Mod_lay 126 = .ok (.goto (-44), 3) := by decide +kernel
theorem d_Mod_lay_129 : decode b_Mod_lay 129 = .ok (.iconst 0, 1) := by decide +kernel
theorem d_Mod_lay_130 : decode b_Mod_lay 130 = .ok (.istore 5, 2) := by decide +kernel
theorem d_Mod_lay_132 : decode b_Mod_lay 132 = .ok (.iload 5, 2) := by decide +kernel
theorem d_Mod_lay_134 : decode b_Mod_lay 134 = .ok (.iconst 2, 1) := by decide +kernel
theorem d_Mod_lay_135 : decode b_Mod_lay 135 = .ok (.if_icmp .ge 34, 3) := by decide +kernel
theorem d_Mod_lay_138 : decode b_Mod_lay 138 = .ok (.iload 4, 2) := by decide +kernel
theorem d_Mod_lay_140 : decode b_Mod_lay 140 = .ok (.iload 5, 2) := by decide +kernel
theorem d_Mod_lay_142 : decode b_Mod_lay 142 = .ok (.iload_n 2, 1) := by decide +kernel
theorem d_Mod_lay_143 : decode b_Mod_lay 143 = .ok (.ishl, 1) := by decide +kernel
theorem d_Mod_lay_144 : decode b_Mod_lay 144 = .ok (.ior, 1) := by decide +kernel
theorem d_Mod_lay_145 : decode b_Mod_lay 145 = .ok (.istore 6, 2) := by decide +kernel
theorem d_Mod_lay_147 : decode b_Mod_lay 147 = .ok (.aload_n 0, 1) := by decide +kernel
theorem d_Mod_lay_148 : decode b_Mod_lay 148 = .ok (.getfield 46, 3) := by decide +kernel
theorem d_Mod_lay_151 : decode b_Mod_lay 151 = .ok (.iload 6, 2) := by decide +kernel
theorem d_Mod_lay_153 : decode b_Mod_lay 153 = .ok (.iconst 1, 1) := by decide +kernel
theorem d_Mod_lay_154 : decode b_Mod_lay 154 = .ok (.iastore, 1) := by decide +kernel
theorem d_Mod_lay_155 : decode b_Mod_lay 155 = .ok (.aload_n 0, 1) := by decide +kernel
theorem d_Mod_lay_156 : decode b_Mod_lay 156 = .ok (.getfield 49, 3) := by decide +kernel
theorem d_Mod_lay_159 : decode b_Mod_lay 159 = .ok (.iload 6, 2) := by decide +kernel
theorem d_Mod_lay_161 : decode b_Mod_lay 161 = .ok (.iconst 1, 1) := by decide +kernel
theorem d_Mod_lay_162 : decode b_Mod_lay 162 = .ok (.bastore, 1) := by decide +kernel
theorem d_Mod_lay_163 : decode b_Mod_lay 163 = .ok (.iinc 5 1, 3) := by decide +kernel
theorem d_Mod_lay_166 : decode b_Mod_lay 166 = .ok (.goto (-34), 3) := by decide +kernel
theorem d_Mod_lay_169 : decode b_Mod_lay 169 = .ok (.iinc 3 1, 3) := by decide +kernel
theorem d_Mod_lay_172 : decode b_Mod_lay 172 = .ok (.goto (-101), 3) := by decide +kernel
theorem d_Mod_lay_175 : decode b_Mod_lay 175 = .ok (.iinc 2 1, 3) := by decide +kernel
theorem d_Mod_lay_178 : decode b_Mod_lay 178 = .ok (.goto (-114), 3) := by decide +kernel
theorem d_Mod_lay_181 : decode b_Mod_lay 181 = .ok (.iconst 0, 1) := by decide +kernel
theorem d_Mod_lay_182 : decode b_Mod_lay 182 = .ok (.istore_n 2, 1) := by decide +kernel
theorem d_Mod_lay_183 : decode b_Mod_lay 183 = .ok (.iload_n 2, 1) := by decide +kernel
theorem d_Mod_lay_184 : decode b_Mod_lay 184 = .ok (.iload_n 1, 1) := by decide +kernel
theorem d_Mod_lay_185 : decode b_Mod_lay 185 = .ok (.if_icmp .ge 208, 3) := by decide +kernel
theorem d_Mod_lay_188 : decode b_Mod_lay 188 = .ok (.iconst 0, 1) := by decide +kernel
theorem d_Mod_lay_189 : decode b_Mod_lay 189 = .ok (.istore_n 3, 1) := by decide +kernel
theorem d_Mod_lay_190 : decode b_Mod_lay 190 = .ok (.iload_n 3, 1) := by decide +kernel
theorem d_Mod_lay_191 : decode b_Mod_lay 191 = .ok (.iload_n 2, 1) := by decide +kernel
theorem d_Mod_lay_192 : decode b_Mod_lay 192 = .ok (.if_icmp .ge 195, 3) := by decide +kernel
theorem d_Mod_lay_195 : decode b_Mod_lay 195 = .ok (.aload_n 0, 1) := by decide +kernel
theorem d_Mod_lay_196 : decode b_Mod_lay 196 = .ok (.iload_n 3, 1) := by decide +kernel
theorem d_Mod_lay_197 : decode b_Mod_lay 197 = .ok (.iload_n 2, 1) := by decide +kernel
theorem d_Mod_lay_198 : decode b_Mod_lay 198 = .ok (.invokevirtual 125, 3) := by decide +kernel
theorem d_Mod_lay_201 : decode b_Mod_lay 201 = .ok (.ifCond .ne 6, 3) := by decide +kernel
theorem d_Mod_lay_204 : decode b_Mod_lay 204 = .ok (.goto 177, 3) := by decide +kernel
theorem d_Mod_lay_207 : decode b_Mod_lay 207 = .ok (.aload_n 0, 1) := by decide +kernel
theorem d_Mod_lay_208 : decode b_Mod_lay 208 = .ok (.dup, 1) := by decide +kernel
theorem d_Mod_lay_209 : decode b_Mod_lay 209 = .ok (.getfield 112, 3) := by decide +kernel
theorem d_Mod_lay_212 : decode b_Mod_lay 212 = .ok (.iconst 1, 1) := by decide +kernel
theorem d_Mod_lay_213 : decode b_Mod_lay 213 = .ok (.iadd, 1) := by decide +kernel
theorem d_Mod_lay_214 : decode b_Mod_lay 214 = .ok (.putfield 112, 3) := by decide +kernel
theorem d_Mod_lay_217 : decode b_Mod_lay 217 = .ok (.iconst 0, 1) := by decide +kernel
theorem d_Mod_lay_218 : decode b_Mod_lay 218 = .ok (.istore 4, 2) := by decide +kernel
theorem d_Mod_lay_220 : decode b_Mod_lay 220 = .ok (.iconst 0, 1) := by decide +kernel
theorem d_Mod_lay_221 : decode b_Mod_lay 221 = .ok (.istore 5, 2) := by decide +kernel
theorem d_Mod_lay_223 : decode b_Mod_lay 223 = .ok (.iconst 0, 1) := by decide +kernel
theorem d_Mod_lay_224 : decode b_Mod_lay 224 = .ok (.istore 6, 2) := by decide +kernel
theorem d_Mod_lay_226 : decode b_Mod_lay 226 = .ok (.iload 6, 2) := by decide +kernel
theorem d_Mod_lay_228 : decode b_Mod_lay 228 = .ok (.iload_n 1, 1) := by decide +kernel
theorem d_Mod_lay_229 : decode b_Mod_lay 229 = .ok (.if_icmp .ge 47, 3) := by decide +kernel
theorem d_Mod_lay_232 : decode b_Mod_lay 232 = .ok (.aload_n 0, 1) := by decide +kernel
theorem d_Mod_lay_233 : decode b_Mod_lay 233 = .ok (.iload 6, 2) := by decide +kernel
theorem d_Mod_lay_235 : decode b_Mod_lay 235 = .ok (.iload_n 3, 1) := by decide +kernel
theorem d_Mod_lay_236 : decode b_Mod_lay 236 = .ok (.iload_n 2, 1) := by decide +kernel
theorem d_Mod_lay_237 : decode b_Mod_lay 237 = .ok (.invokevirtual 108, 3) := by decide +kernel
theorem d_Mod_lay_240 : decode b_Mod_lay 240 = .ok (.istore 7, 2) := by decide +kernel
theorem d_Mod_lay_242 : decode b_Mod_lay 242 = .ok (.iload 7, 2) := by decide +kernel
theorem d_Mod_lay_244 : decode b_Mod_lay 244 = .ok (.ifCond .ne 12, 3) := by decide +kernel
theorem d_Mod_lay_247 : decode b_Mod_lay 247 = .ok (.iload 4, 2) := by decide +kernel
theorem d_Mod_lay_249 : decode b_Mod_lay 249 = .ok (.iconst 1, 1) := by decide +kernel
theorem d_Mod_lay_250 : decode b_Mod_lay 250 = .ok (.iload 6, 2) := by decide +kernel
theorem d_Mod_lay_252 : decode b_Mod_lay 252 = .ok (.ishl, 1) := by decide +kernel
theorem d_Mod_lay_253 : decode b_Mod_lay 253 = .ok (.ior, 1) := by decide +kernel
theorem d_Mod_lay_254 : decode b_Mod_lay 254 = .ok (.istore 4, 2) := by decide +kernel
theorem d_Mod_lay_256 : decode b_Mod_lay 256 = .ok (.iload 7, 2) := by decide +kernel
theorem d_Mod_lay_258 : decode b_Mod_lay 258 = .ok (.ifCond .le 12, 3) := by decide +kernel
theorem d_Mod_lay_261 : decode b_Mod_lay 261 = .ok (.iload 5, 2) := by decide +kernel
theorem d_Mod_lay_263 : decode b_Mod_lay 263 = .ok (.iconst 1, 1) := by decide +kernel
theorem d_Mod_lay_264 : decode b_Mod_lay 264 = .ok (.iload 6, 2) := by decide +kernel
theorem d_Mod_lay_266 : decode b_Mod_lay 266 = .ok (.ishl, 1) := by decide +kernel
theorem d_Mod_lay_267 : decode b_Mod_lay 267 = .ok (.ior, 1) := by decide +kernel
theorem d_Mod_lay_268 : decode b_Mod_lay 268 = .ok (.istore 5, 2) := by decide +kernel
theorem d_Mod_lay_270 : decode b_Mod_lay 270 = .ok (.iinc 6 1, 3) := by decide +kernel
theorem d_Mod_lay_273 : decode b_Mod_lay 273 = .ok (.goto (-47), 3) := by decide +kernel
theorem d_Mod_lay_276 : decode b_Mod_lay 276 = .ok (.iload 4, 2) := by decide +kernel
theorem d_Mod_lay_278 : decode b_Mod_lay 278 = .ok (.invokestatic 129, 3) := by decide +kernel
theorem d_Mod_lay_281 : decode b_Mod_lay 281 = .ok (.istore 6, 2) := by decide +kernel
theorem d_Mod_lay_283 : decode b_Mod_lay 283 = .ok (.iload 6, 2) := by decide +kernel
theorem d_Mod_lay_285 : decode b_Mod_lay 285 = .ok (.iconst 2, 1) := by decide +kernel
theorem d_Mod_lay_286 : decode b_Mod_lay 286 = .ok (.if_icmp .le 13, 3) := by decide +kernel
theorem d_Mod_lay_289 : decode b_Mod_lay 289 = .ok (.aload_n 0, 1) := by decide +kernel
theorem d_Mod_lay_290 : decode b_Mod_lay 290 = .ok (.dup, 1) := by decide +kernel
theorem d_Mod_lay_291 : decode b_Mod_lay 291 = .ok (.getfield 115, 3) := by decide +kernel
theorem d_Mod_lay_294 : decode b_Mod_lay 294 = .ok (.iconst 1, 1) := by decide +kernel
theorem d_Mod_lay_295 : decode b_Mod_lay 295 = .ok (.iadd, 1) := by decide +kernel
theorem d_Mod_lay_296 : decode b_Mod_lay 296 = .ok (.putfield 115, 3) := by decide +kernel
theorem d_Mod_lay_299 : decode b_Mod_lay 299 = .ok (.aload_n 0, 1) := by decide +kernel
theorem d_Mod_lay_300 : decode b_Mod_lay 300 = .ok (.aload_n 0, 1) := by decide +kernel
theorem d_Mod_lay_301 : decode b_Mod_lay 301 = .ok (.getfield 118, 3) := by decide +kernel
theorem d_Mod_lay_304 : decode b_Mod_lay 304 = .ok (.iload 6, 2) := by decide +kernel
theorem d_Mod_lay_306 : decode b_Mod_lay 306 = .ok (.invokestatic 134, 3) := by decide +kernel
theorem d_Mod_lay_309 : decode b_Mod_lay 309 = .ok (.putfield 118, 3) := by decide +kernel
theorem d_Mod_lay_312 : decode b_Mod_lay 312 = .ok (.iconst 0, 1) := by decide +kernel
theorem d_Mod_lay_313 : decode b_Mod_lay 313 = .ok (.istore 7, 2) := by decide +kernel
theorem d_Mod_lay_315 : decode b_Mod_lay 315 = .ok (.iload 7, 2) := by decide +kernel
theorem d_Mod_lay_317 : decode b_Mod_lay 317 = .ok (.sipush 128, 3) := by decide +kernel
theorem d_Mod_lay_320 : decode b_Mod_lay 320 = .ok (.if_icmp .ge 61, 3) := by decide +kernel
theorem d_Mod_lay_323 : decode b_Mod_lay 323 = .ok (.iload 7, 2) := by decide +kernel
theorem d_Mod_lay_325 : decode b_Mod_lay 325 = .ok (.iload 4, 2) := by decide +kernel
theorem d_Mod_lay_327 : decode b_Mod_lay 327 = .ok (.iconst (-1), 1) := by decide +kernel
theorem d_Mod_lay_328 : decode b_Mod_lay 328 = .ok (.ixor, 1) := by decide +kernel
theorem d_Mod_lay_329 : decode b_Mod_lay 329 = .ok (.iand, 1) := by decide +kernel
theorem d_Mod_lay_330 : decode b_Mod_lay 330 = .ok (.ifCond .ne 45, 3) := by decide +kernel
theorem d_Mod_lay_333 : decode b_Mod_lay 333 = .ok (.aload_n 0, 1) := by decide +kernel
theorem d_Mod_lay_334 : decode b_Mod_lay 334 = .ok (.iload 4, 2) := by decide +kernel
theorem d_Mod_lay_336 : decode b_Mod_lay 336 = .ok (.iload 7, 2) := by decide +kernel
theorem d_Mod_lay_338 : decode b_Mod_lay 338 = .ok (.iload_n 1, 1) := by decide +kernel
theorem d_Mod_lay_339 : decode b_Mod_lay 339 = .ok (.invokevirtual 140, 3) := by decide +kernel
theorem d_Mod_lay_342 : decode b_Mod_lay 342 = .ok (.ifCond .ne 6, 3) := by decide +kernel
theorem d_Mod_lay_345 : decode b_Mod_lay 345 = .ok (.goto 30, 3) := by decide +kernel
theorem d_Mod_lay_348 : decode b_Mod_lay 348 = .ok (.iload 5, 2) := by decide +kernel
theorem d_Mod_lay_350 : decode b_Mod_lay 350 = .ok (.iload 7, 2) := by decide +kernel
theorem d_Mod_lay_352 : decode b_Mod_lay 352 = .ok (.ior, 1) := by decide +kernel
theorem d_Mod_lay_353 : decode b_Mod_lay 353 = .ok (.istore 8, 2) := by decide +kernel
theorem d_Mod_lay_355 : decode b_Mod_lay 355 = .ok (.aload_n 0, 1) := by decide +kernel
theorem d_Mod_lay_356 : decode b_Mod_lay 356 = .ok (.getfield 46, 3) := by decide +kernel
theorem d_Mod_lay_359 : decode b_Mod_lay 359 = .ok (.iload 8, 2) := by decide +kernel
theorem d_Mod_lay_361 : decode b_Mod_lay 361 = .ok (.iconst 1, 1) := by decide +kernel
theorem d_Mod_lay_362 : decode b_Mod_lay 362 = .ok (.aload_n 0, 1) := by decide +kernel
theorem d_Mod_lay_363 : decode b_Mod_lay 363 = .ok (.getfield 46, 3) := by decide +kernel
theorem d_Mod_lay_366 : decode b_Mod_lay 366 = .ok (.iload 8, 2) := by decide +kernel
theorem d_Mod_lay_368 : decode b_Mod_lay 368 = .ok (.iaload, 1) := by decide +kernel
theorem d_Mod_lay_369 : decode b_Mod_lay 369 = .ok (.invokestatic 134, 3) := by decide +kernel
theorem d_Mod_lay_372 : decode b_Mod_lay 372 = .ok (.iconst 1, 1) := by decide +kernel
theorem d_Mod_lay_373 : decode b_Mod_lay 373 = .ok (.iadd, 1) := by decide +kernel
theorem d_Mod_lay_374 : decode b_Mod_lay 374 = .ok (.iastore, 1) := by decide +kernel
theorem d_Mod_lay_375 : decode b_Mod_lay 375 = .ok (.iinc 7 1, 3) := by decide +kernel
theorem d_Mod_lay_378 : decode b_Mod_lay 378 = .ok (.goto (-63), 3) := by decide +kernel
theorem d_Mod_lay_381 : decode b_Mod_lay 381 = .ok (.iinc 3 1, 3) := by decide +kernel
theorem d_Mod_lay_384 : decode b_Mod_lay 384 = .ok (.goto (-194), 3) := by decide +kernel
theorem d_Mod_lay_387 : decode b_Mod_lay 387 = .ok (.iinc 2 1, 3) := by decide +kernel
theorem d_Mod_lay_390 : decode b_Mod_lay 390 = .ok (.goto (-207), 3) := by decide +kernel
theorem d_Mod_lay_393 : decode b_Mod_lay 393 = .ok (.return_, 1) := by decide +kernel
theorem d_Mod_isAbout_0 : decode b_Mod_isAbout 0 = .ok (.iconst 0, 1) := by decide +kernel
theorem d_Mod_isAbout_1 : decode b_Mod_isAbout 1 = .ok (.istore 4, 2) := by decide +kernel
theorem d_Mod_isAbout_3 : decode b_Mod_isAbout 3 = .ok (.iload 4, 2) := by decide +kernel
theorem d_Mod_isAbout_5 : decode b_Mod_isAbout 5 = .ok (.iload_n 3, 1) := by decide +kernel
theorem d_Mod_isAbout_6 : decode b_Mod_isAbout 6 = .ok (.if_icmp .ge 121, 3) := by decide +kernel
theorem d_Mod_isAbout_9 : decode b_Mod_isAbout 9 = .ok (.iload_n 1, 1) := by decide +kernel
theorem d_Mod_isAbout_10 : decode b_Mod_isAbout 10 = .ok (.iload 4, 2) := by decide +kernel
theorem d_Mod_isAbout_12 : decode b_Mod_isAbout 12 = .ok (.invokestatic 143, 3) := by decide +kernel
theorem d_Mod_isAbout_15 : decode b_Mod_isAbout 15 = .ok (.ifCond .ne 6, 3) := by decide +kernel
theorem d_Mod_isAbout_18 : decode b_Mod_isAbout 18 = .ok (.goto 103, 3) := by decide +kernel
theorem d_Mod_isAbout_21 : decode b_Mod_isAbout 21 = .ok (.iconst 0, 1) := by decide +kernel
theorem d_Mod_isAbout_22 : decode b_Mod_isAbout 22 = .ok (.istore 5, 2) := by decide +kernel
theorem d_Mod_isAbout_24 : decode b_Mod_isAbout 24 = .ok (.iload 5, 2) := by decide +kernel
theorem d_Mod_isAbout_26 : decode b_Mod_isAbout 26 = .ok (.iconst 2, 1) := by decide +kernel
theorem d_Mod_isAbout_27 : decode b_Mod_isAbout 27 = .ok (.if_icmp .ge 94, 3) := by decide +kernel
theorem d_Mod_isAbout_30 : decode b_Mod_isAbout 30 = .ok (.iconst 1, 1) := by decide +kernel
theorem d_Mod_isAbout_31 : decode b_Mod_isAbout 31 = .ok (.istore 6, 2) := by decide +kernel
theorem d_Mod_isAbout_33 : decode b_Mod_isAbout 33 = .ok (.iconst 0, 1) := by decide +kernel
theorem d_Mod_isAbout_34 : decode b_Mod_isAbout 34 = .ok (.istore 7, 2) := by decide +kernel
theorem d_Mod_isAbout_36 : decode b_Mod_isAbout 36 = .ok (.iload 7, 2) := by decide +kernel
theorem d_Mod_isAbout_38 : decode b_Mod_isAbout 38 = .ok (.iload_n 3, 1) := by decide +kernel
theorem d_Mod_isAbout_39 : decode b_Mod_isAbout 39 = .ok (.if_icmp .ge 69, 3) := by decide +kernel
theorem d_Mod_isAbout_42 : decode b_Mod_isAbout 42 = .ok (.iload 6, 2) := by decide +kernel
theorem d_Mod_isAbout_44 : decode b_Mod_isAbout 44 = .ok (.ifCond .eq 64, 3) := by decide +kernel
theorem d_Mod_isAbout_47 : decode b_Mod_isAbout 47 = .ok (.iload 7, 2) := by decide +kernel
theorem d_Mod_isAbout_49 : decode b_Mod_isAbout 49 = .ok (.iload 4, 2) := by decide +kernel
theorem d_Mod_isAbout_51 : decode b_Mod_isAbout 51 = .ok (.if_icmp .eq 51, 3) := by decide +kernel
theorem d_Mod_isAbout_54 : decode b_Mod_isAbout 54 = .ok (.iload_n 1, 1) := by decide +kernel
theorem d_Mod_isAbout_55 : decode b_Mod_isAbout 55 = .ok (.iload 7, 2) := by decide +kernel
theorem d_Mod_isAbout_57 : decode b_Mod_isAbout 57 = .ok (.invokestatic 143, 3) := by decide +kernel
theorem d_Mod_isAbout_60 : decode b_Mod_isAbout 60 = .ok (.ifCond .eq 42, 3) := by decide +kernel
theorem d_Mod_isAbout_63 : decode b_Mod_isAbout 63 = .ok (.aload_n 0, 1) := by decide +kernel
theorem d_Mod_isAbout_64 : decode b_Mod_isAbout 64 = .ok (.iload 7, 2) := by decide +kernel
theorem d_Mod_isAbout_66 : decode b_Mod_isAbout 66 = .ok (.iload 4, 2) := by decide +kernel
theorem d_Mod_isAbout_68 : decode b_Mod_isAbout 68 = .ok (.iload 5, 2) := by decide +kernel
theorem d_Mod_isAbout_70 : decode b_Mod_isAbout 70 = .ok (.iconst 1, 1) := by decide +kernel
theorem d_Mod_isAbout_71 : decode b_Mod_isAbout 71 = .ok (.if_icmp .ne 7, 3) := by decide +kernel
theorem d_Mod_isAbout_74 : decode b_Mod_isAbout 74 = .ok (.iconst 1, 1) := by decide +kernel
theorem d_Mod_isAbout_75 : decode b_Mod_isAbout 75 = .ok (.goto 4, 3) := by decide +kernel
theorem d_Mod_isAbout_78 : decode b_Mod_isAbout 78 = .ok (.iconst 0, 1) := by decide +kernel
theorem d_Mod_isAbout_79 : decode b_Mod_isAbout 79 = .ok (.invokevirtual 121, 3) := by decide +kernel
theorem d_Mod_isAbout_82 : decode b_Mod_isAbout 82 = .ok (.ifCond .le 7, 3) := by decide +kernel
theorem d_Mod_isAbout_85 : decode b_Mod_isAbout 85 = .ok (.iconst 1, 1) := by decide +kernel
theorem d_Mod_isAbout_86 : decode b_Mod_isAbout 86 = .ok (.goto 4, 3) := by decide +kernel
theorem d_Mod_isAbout_89 : decode b_Mod_isAbout 89 = .ok (.iconst 0, 1) := by decide +kernel
theorem d_Mod_isAbout_90 : decode b_Mod_isAbout 90 = .ok (.iload_n 2, 1) := by decide +kernel
theorem d_Mod_isAbout_91 : decode b_Mod_isAbout 91 = .ok (.iload 7, 2) := by decide +kernel
theorem d_Mod_isAbout_93 : decode b_Mod_isAbout 93 = .ok (.invokestatic 143, 3) := by decide +kernel
theorem d_Mod_isAbout_96 : decode b_Mod_isAbout 96 = .ok (.if_icmp .eq 6, 3) := by decide +kernel
theorem d_Mod_isAbout_99 : decode b_Mod_isAbout 99 = .ok (.iconst 0, 1) := by decide +kernel
theorem d_Mod_isAbout_100 : decode b_Mod_isAbout 100 = .ok (.istore 6, 2) := by decide +kernel
theorem d_Mod_isAbout_102 : decode b_Mod_isAbout 102 = .ok (.iinc 7 1, 3) := by decide +kernel
theorem d_Mod_isAbout_105 : decode b_Mod_isAbout 105 = .ok (.goto (-69), 3) := by decide +kernel
theorem d_Mod_isAbout_108 : decode b_Mod_isAbout 108 = .ok (.iload 6, 2) := by decide +kernel
theorem d_Mod_isAbout_110 : decode b_Mod_isAbout 110 = .ok (.ifCond .eq 5, 3) := by decide +kernel
theorem d_Mod_isAbout_113 : decode b_Mod_isAbout 113 = .ok (.iconst 1, 1) := by decide +kernel
theorem d_Mod_isAbout_114 : decode b_Mod_isAbout 114 = .ok (.ireturn, 1) := by decide +kernel
theorem d_Mod_isAbout_115 : decode b_Mod_isAbout 115 = .ok (.iinc 5 1, 3) := by decide +kernel
theorem d_Mod_isAbout_118 : decode b_Mod_isAbout 118 = .ok (.goto (-94), 3) := by decide +kernel
theorem d_Mod_isAbout_121 : decode b_Mod_isAbout 121 = .ok (.iinc 4 1, 3) := by decide +kernel
theorem d_Mod_isAbout_124 : decode b_Mod_isAbout 124 = .ok (.goto (-121), 3) := by decide +kernel
theorem d_Mod_isAbout_127 : decode b_Mod_isAbout 127 = .ok (.iconst 0, 1) := by decide +kernel
theorem d_Mod_isAbout_128 : decode b_Mod_isAbout 128 = .ok (.ireturn, 1) := by decide +kernel
theorem d_Mod_isQuarter_0 : decode b_Mod_isQuarter 0 = .ok (.aload_n 0, 1) := by decide +kernel
theorem d_Mod_isQuarter_1 : decode b_Mod_isQuarter 1 = .ok (.aload_n 0, 1) := by decide +kernel
theorem d_Mod_isQuarter_2 : decode b_Mod_isQuarter 2 = .ok (.getfield 58, 3) := by decide +kernel
theorem d_Mod_isQuarter_5 : decode b_Mod_isQuarter 5 = .ok (.invokevirtual 146, 3) := by decide +kernel
theorem d_Mod_isQuarter_8 : decode b_Mod_isQuarter 8 = .ok (.iload_n 1, 1) := by decide +kernel
theorem d_Mod_isQuarter_9 : decode b_Mod_isQuarter 9 = .ok (.iconst 0, 1) := by decide +kernel
theorem d_Mod_isQuarter_10 : decode b_Mod_isQuarter 10 = .ok (.bipush 127, 2) := by decide +kernel
theorem d_Mod_isQuarter_12 : decode b_Mod_isQuarter 12 = .ok (.invokestatic 62, 3) := by decide +kernel
theorem d_Mod_isQuarter_15 : decode b_Mod_isQuarter 15 = .ok (.ifCond .eq 16, 3) := by decide +kernel
theorem d_Mod_isQuarter_18 : decode b_Mod_isQuarter 18 = .ok (.aload_n 0, 1) := by decide +kernel
theorem d_Mod_isQuarter_19 : decode b_Mod_isQuarter 19 = .ok (.getfield 46, 3) := by decide +kernel
theorem d_Mod_isQuarter_22 : decode b_Mod_isQuarter 22 = .ok (.iload_n 1, 1) := by decide +kernel
theorem d_Mod_isQuarter_23 : decode b_Mod_isQuarter 23 = .ok (.iaload, 1) := by decide +kernel
theorem d_Mod_isQuarter_24 : decode b_Mod_isQuarter 24 = .ok (.ifCond .le 7, 3) := by decide +kernel
theorem d_Mod_isQuarter_27 : decode b_Mod_isQuarter 27 = .ok (.iconst 1, 1) := by decide +kernel
theorem d_Mod_isQuarter_28 : decode b_Mod_isQuarter 28 = .ok (.goto 4, 3) := by decide +kernel
theorem d_Mod_isQuarter_31 : decode b_Mod_isQuarter 31 = .ok (.iconst 0, 1) := by decide +kernel
theorem d_Mod_isQuarter_32 : decode b_Mod_isQuarter 32 = .ok (.ireturn, 1) := by decide +kernel
theorem d_Mod_howMany_0 : decode b_Mod_howMany 0 = .ok (.iconst 0, 1) := by decide +kernel
theorem d_Mod_howMany_1 : decode b_Mod_howMany 1 = .ok (.istore_n 1, 1) := by decide +kernel
theorem d_Mod_howMany_2 : decode b_Mod_howMany 2 = .ok (.iconst 0, 1) := by decide +kernel
theorem d_Mod_howMany_3 : decode b_Mod_howMany 3 = .ok (.istore_n 2, 1) := by decide +kernel
theorem d_Mod_howMany_4 : decode b_Mod_howMany 4 = .ok (.iload_n 2, 1) := by decide +kernel
theorem d_Mod_howMany_5 : decode b_Mod_howMany 5 = .ok (.sipush 128, 3) := by decide +kernel
theorem d_Mod_howMany_8 : decode b_Mod_howMany 8 = .ok (.if_icmp .ge 21, 3) := by decide +kernel
theorem d_Mod_howMany_11 : decode b_Mod_howMany 11 = .ok (.aload_n 0, 1) := by decide +kernel
theorem d_Mod_howMany_12 : decode b_Mod_howMany 12 = .ok (.getfield 46, 3) := by decide +kernel
theorem d_Mod_howMany_15 : decode b_Mod_howMany 15 = .ok (.iload_n 2, 1) := by decide +kernel
theorem d_Mod_howMany_16 : decode b_Mod_howMany 16 = .ok (.iaload, 1) := by decide +kernel
theorem d_Mod_howMany_17 : decode b_Mod_howMany 17 = .ok (.ifCond .le 6, 3) := by decide +kernel
theorem d_Mod_howMany_20 : decode b_Mod_howMany 20 = .ok (.iinc 1 1, 3) := by decide +kernel
theorem d_Mod_howMany_23 : decode b_Mod_howMany 23 = .ok (.iinc 2 1, 3) := by decide +kernel
theorem d_Mod_howMany_26 : decode b_Mod_howMany 26 = .ok (.goto (-22), 3) := by decide +kernel
theorem d_Mod_howMany_29 : decode b_Mod_howMany 29 = .ok (.iload_n 1, 1) := by decide +kernel
theorem d_Mod_howMany_30 : decode b_Mod_howMany 30 = .ok (.ireturn, 1) := by decide +kernel
theorem d_Mod_pointsOf_0 : decode b_Mod_pointsOf 0 = .ok (.iconst 0, 1) := by decide +kernel
theorem d_Mod_pointsOf_1 : decode b_Mod_pointsOf 1 = .ok (.istore_n 3, 1) := by decide +kernel
theorem d_Mod_pointsOf_2 : decode b_Mod_pointsOf 2 = .ok (.iconst 0, 1) := by decide +kernel
theorem d_Mod_pointsOf_3 : decode b_Mod_pointsOf 3 = .ok (.istore 4, 2) := by decide +kernel
theorem d_Mod_pointsOf_5 : decode b_Mod_pointsOf 5 = .ok (.iload 4, 2) := by decide +kernel
theorem d_Mod_pointsOf_7 : decode b_Mod_pointsOf 7 = .ok (.aload_n 0, 1) := by decide +kernel
theorem d_Mod_pointsOf_8 : decode b_Mod_pointsOf 8 = .ok (.getfield 58, 3) := by decide +kernel
theorem d_Mod_pointsOf_11 : decode b_Mod_pointsOf 11 = .ok (.if_icmp .ge 127, 3) := by decide +kernel
theorem d_Mod_pointsOf_14 : decode b_Mod_pointsOf 14 = .ok (.iconst 0, 1) := by decide +kernel
theorem d_Mod_pointsOf_15 : decode b_Mod_pointsOf 15 = .ok (.istore 5, 2) := by decide +kernel
theorem d_Mod_pointsOf_17 : decode b_Mod_pointsOf 17 = .ok (.iload 5, 2) := by decide +kernel
theorem d_Mod_pointsOf_19 : decode b_Mod_pointsOf 19 = .ok (.iload 4, 2) := by decide +kernel
theorem d_Mod_pointsOf_21 : decode b_Mod_pointsOf 21 = .ok (.if_icmp .ge 111, 3) := by decide +kernel
theorem d_Mod_pointsOf_24 : decode b_Mod_pointsOf 24 = .ok (.aload_n 0, 1) := by decide +kernel
theorem d_Mod_pointsOf_25 : decode b_Mod_pointsOf 25 = .ok (.iload 5, 2) := by decide +kernel
theorem d_Mod_pointsOf_27 : decode b_Mod_pointsOf 27 = .ok (.iload 4, 2) := by decide +kernel
theorem d_Mod_pointsOf_29 : decode b_Mod_pointsOf 29 = .ok (.invokevirtual 125, 3) := by decide +kernel
theorem d_Mod_pointsOf_32 : decode b_Mod_pointsOf 32 = .ok (.ifCond .eq 94, 3) := by decide +kernel
theorem d_Mod_pointsOf_35 : decode b_Mod_pointsOf 35 = .ok (.iload 5, 2) := by decide +kernel
theorem d_Mod_pointsOf_37 : decode b_Mod_pointsOf 37 = .ok (.iload_n 1, 1) := by decide +kernel
theorem d_Mod_pointsOf_38 : decode b_Mod_pointsOf 38 = .ok (.if_icmp .eq 24, 3) := by decide +kernel
theorem d_Mod_pointsOf_41 : decode b_Mod_pointsOf 41 = .ok (.iload 4, 2) := by decide +kernel
theorem d_Mod_pointsOf_43 : decode b_Mod_pointsOf 43 = .ok (.iload_n 1, 1) := by decide +kernel
theorem d_Mod_pointsOf_44 : decode b_Mod_pointsOf 44 = .ok (.if_icmp .eq 18, 3) := by decide +kernel
theorem d_Mod_pointsOf_47 : decode b_Mod_pointsOf 47 = .ok (.aload_n 0, 1) := by decide +kernel
theorem d_Mod_pointsOf_48 : decode b_Mod_pointsOf 48 = .ok (.iload_n 1, 1) := by decide +kernel
theorem d_Mod_pointsOf_49 : decode b_Mod_pointsOf 49 = .ok (.iload 5, 2) := by decide +kernel
theorem d_Mod_pointsOf_51 : decode b_Mod_pointsOf 51 = .ok (.iload 4, 2) := by decide +kernel
theorem d_Mod_pointsOf_53 : decode b_Mod_pointsOf 53 = .ok (.invokevirtual 108, 3) := by decide +kernel
theorem d_Mod_pointsOf_56 : decode b_Mod_pointsOf 56 = .ok (.ifCond .eq 6, 3) := by decide +kernel
theorem d_Mod_pointsOf_59 : decode b_Mod_pointsOf 59 = .ok (.goto 67, 3) := by decide +kernel
theorem d_Mod_pointsOf_62 : decode b_Mod_pointsOf 62 = .ok (.iconst 0, 1) := by decide +kernel
theorem d_Mod_pointsOf_63 : decode b_Mod_pointsOf 63 = .ok (.istore 6, 2) := by decide +kernel
theorem d_Mod_pointsOf_65 : decode b_Mod_pointsOf 65 = .ok (.iconst 0, 1) := by decide +kernel
theorem d_Mod_pointsOf_66 : decode b_Mod_pointsOf 66 = .ok (.istore 7, 2) := by decide +kernel
theorem d_Mod_pointsOf_68 : decode b_Mod_pointsOf 68 = .ok (.iload 7, 2) := by decide +kernel
theorem d_Mod_pointsOf_70 : decode b_Mod_pointsOf 70 = .ok (.aload_n 0, 1) := by decide +kernel
theorem d_Mod_pointsOf_71 : decode b_Mod_pointsOf 71 = .ok (.getfield 58, 3) := by decide +kernel
theorem d_Mod_pointsOf_74 : decode b_Mod_pointsOf 74 = .ok (.if_icmp .ge 39, 3) := by decide +kernel
theorem d_Mod_pointsOf_77 : decode b_Mod_pointsOf 77 = .ok (.iload 7, 2) := by decide +kernel
theorem d_Mod_pointsOf_79 : decode b_Mod_pointsOf 79 = .ok (.iload 5, 2) := by decide +kernel
theorem d_Mod_pointsOf_81 : decode b_Mod_pointsOf 81 = .ok (.if_icmp .eq 23, 3) := by decide +kernel
theorem d_Mod_pointsOf_84 : decode b_Mod_pointsOf 84 = .ok (.iload 7, 2) := by decide +kernel
theorem d_Mod_pointsOf_86 : decode b_Mod_pointsOf 86 = .ok (.iload 4, 2) := by decide +kernel
theorem d_Mod_pointsOf_88 : decode b_Mod_pointsOf 88 = .ok (.if_icmp .eq 16, 3) := by decide +kernel
theorem d_Mod_pointsOf_91 : decode b_Mod_pointsOf 91 = .ok (.aload_n 0, 1) := by decide +kernel
theorem d_Mod_pointsOf_92 : decode b_Mod_pointsOf 92 = .ok (.iload 7, 2) := by decide +kernel
theorem d_Mod_pointsOf_94 : decode b_Mod_pointsOf 94 = .ok (.iload 5, 2) := by decide +kernel
theorem d_Mod_pointsOf_96 : decode b_Mod_pointsOf 96 = .ok (.iload 4, 2) := by decide +kernel
theorem d_Mod_pointsOf_98 : decode b_Mod_pointsOf 98 = .ok (.invokevirtual 108, 3) := by decide +kernel
theorem d_Mod_pointsOf_101 : decode b_Mod_pointsOf 101 = .ok (.ifCond .ne 6, 3) := by decide +kernel
theorem d_Mod_pointsOf_104 : decode b_Mod_pointsOf 104 = .ok (.iinc 6 1, 3) := by decide +kernel
theorem d_Mod_pointsOf_107 : decode b_Mod_pointsOf 107 = .ok (.iinc 7 1, 3) := by decide +kernel
theorem d_Mod_pointsOf_110 : decode b_Mod_pointsOf 110 = .ok (.goto (-42), 3) := by decide +kernel
theorem d_Mod_pointsOf_113 : decode b_Mod_pointsOf 113 = .ok (.iload_n 2, 1) := by decide +kernel
theorem d_Mod_pointsOf_114 : decode b_Mod_pointsOf 114 = .ok (.ifCond .eq 9, 3) := by decide +kernel
theorem d_Mod_pointsOf_117 : decode b_Mod_pointsOf 117 = .ok (.iload 6, 2) := by decide +kernel
theorem d_Mod_pointsOf_119 : decode b_Mod_pointsOf 119 = .ok (.iconst 2, 1) := by decide +kernel
theorem d_Mod_pointsOf_120 : decode b_Mod_pointsOf 120 = .ok (.if_icmp .le 6, 3) := by decide +kernel
theorem d_Mod_pointsOf_123 : decode b_Mod_pointsOf 123 = .ok (.iinc 3 1, 3) := by decide +kernel
theorem d_Mod_pointsOf_126 : decode b_Mod_pointsOf 126 = .ok (.iinc 5 1, 3) := by decide +kernel
theorem d_Mod_pointsOf_129 : decode b_Mod_pointsOf 129 = .ok (.goto (-112), 3) := by decide +kernel
theorem d_Mod_pointsOf_132 : decode b_Mod_pointsOf 132 = .ok (.iinc 4 1, 3) := by decide +kernel
theorem d_Mod_pointsOf_135 : decode b_Mod_pointsOf 135 = .ok (.goto (-130), 3) := by decide +kernel
theorem d_Mod_pointsOf_138 : decode b_Mod_pointsOf 138 = .ok (.iload_n 3, 1) := by decide +kernel
theorem d_Mod_pointsOf_139 : decode b_Mod_pointsOf 139 = .ok (.ireturn, 1) := by decide +kernel
theorem d_Mod_lampsOf_0 : decode b_Mod_lampsOf 0 = .ok (.aload_n 0, 1) := by decide +kernel
theorem d_Mod_lampsOf_1 : decode b_Mod_lampsOf 1 = .ok (.iload_n 1, 1) := by decide +kernel
theorem d_Mod_lampsOf_2 : decode b_Mod_lampsOf 2 = .ok (.iconst 0, 1) := by decide +kernel
theorem d_Mod_lampsOf_3 : decode b_Mod_lampsOf 3 = .ok (.invokevirtual 150, 3) := by decide +kernel
theorem d_Mod_lampsOf_6 : decode b_Mod_lampsOf 6 = .ok (.istore_n 2, 1) := by decide +kernel
theorem d_Mod_lampsOf_7 : decode b_Mod_lampsOf 7 = .ok (.aload_n 0, 1) := by decide +kernel
theorem d_Mod_lampsOf_8 : decode b_Mod_lampsOf 8 = .ok (.getfield 7, 3) := by decide +kernel
theorem d_Mod_lampsOf_11 : decode b_Mod_lampsOf 11 = .ok (.iload_n 1, 1) := by decide +kernel
theorem d_Mod_lampsOf_12 : decode b_Mod_lampsOf 12 = .ok (.iaload, 1) := by decide +kernel
theorem d_Mod_lampsOf_13 : decode b_Mod_lampsOf 13 = .ok (.tableswitch 62 0 4 #[35, 37, 41, 43, 56], 35) := by decide +kernel
theorem d_Mod_lampsOf_48 : decode b_Mod_lampsOf 48 = .ok (.iload_n 2, 1) := by decide +kernel
theorem d_Mod_lampsOf_49 : decode b_Mod_lampsOf 49 = .ok (.ireturn, 1) := by decide +kernel
theorem d_Mod_lampsOf_50 : decode b_Mod_lampsOf 50 = .ok (.iconst 2, 1) := by decide +kernel
theorem d_Mod_lampsOf_51 : decode b_Mod_lampsOf 51 = .ok (.iload_n 2, 1) := by decide +kernel
theorem d_Mod_lampsOf_52 : decode b_Mod_lampsOf 52 = .ok (.imul, 1) := by decide +kernel
theorem d_Mod_lampsOf_53 : decode b_Mod_lampsOf 53 = .ok (.ireturn, 1) := by decide +kernel
theorem d_Mod_lampsOf_54 : decode b_Mod_lampsOf 54 = .ok (.iconst 0, 1) := by decide +kernel
theorem d_Mod_lampsOf_55 : decode b_Mod_lampsOf 55 = .ok (.ireturn, 1) := by decide +kernel
theorem d_Mod_lampsOf_56 : decode b_Mod_lampsOf 56 = .ok (.iconst 2, 1) := by decide +kernel
theorem d_Mod_lampsOf_57 : decode b_Mod_lampsOf 57 = .ok (.iload_n 2, 1) := by decide +kernel
theorem d_Mod_lampsOf_58 : decode b_Mod_lampsOf 58 = .ok (.imul, 1) := by decide +kernel
theorem d_Mod_lampsOf_59 : decode b_Mod_lampsOf 59 = .ok (.iconst 5, 1) := by decide +kernel
theorem d_Mod_lampsOf_60 : decode b_Mod_lampsOf 60 = .ok (.aload_n 0, 1) := by decide +kernel
theorem d_Mod_lampsOf_61 : decode b_Mod_lampsOf 61 = .ok (.iload_n 1, 1) := by decide +kernel
theorem d_Mod_lampsOf_62 : decode b_Mod_lampsOf 62 = .ok (.iconst 1, 1) := by decide +kernel
theorem d_Mod_lampsOf_63 : decode b_Mod_lampsOf 63 = .ok (.invokevirtual 150, 3) := by decide +kernel
theorem d_Mod_lampsOf_66 : decode b_Mod_lampsOf 66 = .ok (.imul, 1) := by decide +kernel
theorem d_Mod_lampsOf_67 : decode b_Mod_lampsOf 67 = .ok (.iadd, 1) := by decide +kernel
theorem d_Mod_lampsOf_68 : decode b_Mod_lampsOf 68 = .ok (.ireturn, 1) := by decide +kernel
theorem d_Mod_lampsOf_69 : decode b_Mod_lampsOf 69 = .ok (.iconst 1, 1) := by decide +kernel
theorem d_Mod_lampsOf_70 : decode b_Mod_lampsOf 70 = .ok (.iload_n 1, 1) := by decide +kernel
theorem d_Mod_lampsOf_71 : decode b_Mod_lampsOf 71 = .ok (.iadd, 1) := by decide +kernel
theorem d_Mod_lampsOf_72 : decode b_Mod_lampsOf 72 = .ok (.iload_n 2, 1) := by decide +kernel
theorem d_Mod_lampsOf_73 : decode b_Mod_lampsOf 73 = .ok (.imul, 1) := by decide +kernel
theorem d_Mod_lampsOf_74 : decode b_Mod_lampsOf 74 = .ok (.ireturn, 1) := by decide +kernel
theorem d_Mod_lampsOf_75 : decode b_Mod_lampsOf 75 = .ok (.iload_n 1, 1) := by decide +kernel
theorem d_Mod_lampsOf_76 : decode b_Mod_lampsOf 76 = .ok (.aload_n 0, 1) := by decide +kernel
theorem d_Mod_lampsOf_77 : decode b_Mod_lampsOf 77 = .ok (.getfield 58, 3) := by decide +kernel
theorem d_Mod_lampsOf_80 : decode b_Mod_lampsOf 80 = .ok (.iconst 1, 1) := by decide +kernel
theorem d_Mod_lampsOf_81 : decode b_Mod_lampsOf 81 = .ok (.isub, 1) := by decide +kernel
theorem d_Mod_lampsOf_82 : decode b_Mod_lampsOf 82 = .ok (.if_icmp .ne 10, 3) := by decide +kernel
theorem d_Mod_lampsOf_85 : decode b_Mod_lampsOf 85 = .ok (.bipush 7, 2) := by decide +kernel
theorem d_Mod_lampsOf_87 : decode b_Mod_lampsOf 87 = .ok (.iload_n 2, 1) := by decide +kernel
theorem d_Mod_lampsOf_88 : decode b_Mod_lampsOf 88 = .ok (.imul, 1) := by decide +kernel
theorem d_Mod_lampsOf_89 : decode b_Mod_lampsOf 89 = .ok (.goto 4, 3) := by decide +kernel
theorem d_Mod_lampsOf_92 : decode b_Mod_lampsOf 92 = .ok (.iconst 0, 1) := by decide +kernel
theorem d_Mod_lampsOf_93 : decode b_Mod_lampsOf 93 = .ok (.ireturn, 1) := by decide +kernel
theorem d_Mod_street_0 : decode b_Mod_street 0 = .ok (.aload_n 0, 1) := by decide +kernel
theorem d_Mod_street_1 : decode b_Mod_street 1 = .ok (.iload_n 1, 1) := by decide +kernel
theorem d_Mod_street_2 : decode b_Mod_street 2 = .ok (.invokevirtual 154, 3) := by decide +kernel
theorem d_Mod_street_5 : decode b_Mod_street 5 = .ok (.ifCond .ne 9, 3) := by decide +kernel
theorem d_Mod_street_8 : decode b_Mod_street 8 = .ok (.aload_n 0, 1) := by decide +kernel
theorem d_Mod_street_9 : decode b_Mod_street 9 = .ok (.iconst (-1), 1) := by decide +kernel
theorem d_Mod_street_10 : decode b_Mod_street 10 = .ok (.invokevirtual 157, 3) := by decide +kernel
theorem d_Mod_street_13 : decode b_Mod_street 13 = .ok (.ireturn, 1) := by decide +kernel
theorem d_Mod_street_14 : decode b_Mod_street 14 = .ok (.iload_n 2, 1) := by decide +kernel
theorem d_Mod_street_15 : decode b_Mod_street 15 = .ok (.tableswitch 67 0 4 #[33, 40, 47, 54, 61], 33) := by decide +kernel
theorem d_Mod_street_48 : decode b_Mod_street 48 = .ok (.aload_n 0, 1) := by decide +kernel
theorem d_Mod_street_49 : decode b_Mod_street 49 = .ok (.getfield 7, 3) := by decide +kernel
theorem d_Mod_street_52 : decode b_Mod_street 52 = .ok (.iload_n 1, 1) := by decide +kernel
theorem d_Mod_street_53 : decode b_Mod_street 53 = .ok (.iaload, 1) := by decide +kernel
theorem d_Mod_street_54 : decode b_Mod_street 54 = .ok (.ireturn, 1) := by decide +kernel
theorem d_Mod_street_55 : decode b_Mod_street 55 = .ok (.aload_n 0, 1) := by decide +kernel
theorem d_Mod_street_56 : decode b_Mod_street 56 = .ok (.getfield 13, 3) := by decide +kernel
theorem d_Mod_street_59 : decode b_Mod_street 59 = .ok (.iload_n 1, 1) := by decide +kernel
theorem d_Mod_street_60 : decode b_Mod_street 60 = .ok (.iaload, 1) := by decide +kernel
theorem d_Mod_street_61 : decode b_Mod_street 61 = .ok (.ireturn, 1) := by decide +kernel
theorem d_Mod_street_62 : decode b_Mod_street 62 = .ok (.aload_n 0, 1) := by decide +kernel
theorem d_Mod_street_63 : decode b_Mod_street 63 = .ok (.getfield 16, 3) := by decide +kernel
theorem d_Mod_street_66 : decode b_Mod_street 66 = .ok (.iload_n 1, 1) := by decide +kernel
theorem d_Mod_street_67 : decode b_Mod_street 67 = .ok (.iaload, 1) := by decide +kernel
theorem d_Mod_street_68 : decode b_Mod_street 68 = .ok (.ireturn, 1) := by decide +kernel
theorem d_Mod_street_69 : decode b_Mod_street 69 = .ok (.aload_n 0, 1) := by decide +kernel
theorem d_Mod_street_70 : decode b_Mod_street 70 = .ok (.getfield 19, 3) := by decide +kernel
theorem d_Mod_street_73 : decode b_Mod_street 73 = .ok (.iload_n 1, 1) := by decide +kernel
theorem d_Mod_street_74 : decode b_Mod_street 74 = .ok (.iaload, 1) := by decide +kernel
theorem d_Mod_street_75 : decode b_Mod_street 75 = .ok (.ireturn, 1) := by decide +kernel
theorem d_Mod_street_76 : decode b_Mod_street 76 = .ok (.aload_n 0, 1) := by decide +kernel
theorem d_Mod_street_77 : decode b_Mod_street 77 = .ok (.iload_n 1, 1) := by decide +kernel
theorem d_Mod_street_78 : decode b_Mod_street 78 = .ok (.invokevirtual 160, 3) := by decide +kernel
theorem d_Mod_street_81 : decode b_Mod_street 81 = .ok (.ireturn, 1) := by decide +kernel
theorem d_Mod_street_82 : decode b_Mod_street 82 = .ok (.aload_n 0, 1) := by decide +kernel
theorem d_Mod_street_83 : decode b_Mod_street 83 = .ok (.bipush (-2), 2) := by decide +kernel
theorem d_Mod_street_85 : decode b_Mod_street 85 = .ok (.invokevirtual 157, 3) := by decide +kernel
theorem d_Mod_street_88 : decode b_Mod_street 88 = .ok (.ireturn, 1) := by decide +kernel
theorem d_Mod_plot_0 : decode b_Mod_plot 0 = .ok (.aload_n 0, 1) := by decide +kernel
theorem d_Mod_plot_1 : decode b_Mod_plot 1 = .ok (.iload_n 1, 1) := by decide +kernel
theorem d_Mod_plot_2 : decode b_Mod_plot 2 = .ok (.invokevirtual 163, 3) := by decide +kernel
theorem d_Mod_plot_5 : decode b_Mod_plot 5 = .ok (.ifCond .ne 9, 3) := by decide +kernel
theorem d_Mod_plot_8 : decode b_Mod_plot 8 = .ok (.aload_n 0, 1) := by decide +kernel
theorem d_Mod_plot_9 : decode b_Mod_plot 9 = .ok (.iconst (-1), 1) := by decide +kernel
theorem d_Mod_plot_10 : decode b_Mod_plot 10 = .ok (.invokevirtual 157, 3) := by decide +kernel
theorem d_Mod_plot_13 : decode b_Mod_plot 13 = .ok (.ireturn, 1) := by decide +kernel
theorem d_Mod_plot_14 : decode b_Mod_plot 14 = .ok (.iload_n 2, 1) := by decide +kernel
theorem d_Mod_plot_15 : decode b_Mod_plot 15 = .ok (.iconst 0, 1) := by decide +kernel
theorem d_Mod_plot_16 : decode b_Mod_plot 16 = .ok (.iconst 1, 1) := by decide +kernel
theorem d_Mod_plot_17 : decode b_Mod_plot 17 = .ok (.invokestatic 62, 3) := by decide +kernel
theorem d_Mod_plot_20 : decode b_Mod_plot 20 = .ok (.ifCond .ne 10, 3) := by decide +kernel
theorem d_Mod_plot_23 : decode b_Mod_plot 23 = .ok (.aload_n 0, 1) := by decide +kernel
theorem d_Mod_plot_24 : decode b_Mod_plot 24 = .ok (.bipush (-2), 2) := by decide +kernel
theorem d_Mod_plot_26 : decode b_Mod_plot 26 = .ok (.invokevirtual 157, 3) := by decide +kernel
theorem d_Mod_plot_29 : decode b_Mod_plot 29 = .ok (.ireturn, 1) := by decide +kernel
theorem d_Mod_plot_30 : decode b_Mod_plot 30 = .ok (.iload_n 2, 1) := by decide +kernel
theorem d_Mod_plot_31 : decode b_Mod_plot 31 = .ok (.ifCond .ne 12, 3) := by decide +kernel
theorem d_Mod_plot_34 : decode b_Mod_plot 34 = .ok (.aload_n 0, 1) := by decide +kernel
theorem d_Mod_plot_35 : decode b_Mod_plot 35 = .ok (.getfield 22, 3) := by decide +kernel
theorem d_Mod_plot_38 : decode b_Mod_plot 38 = .ok (.iload_n 1, 1) := by decide +kernel
theorem d_Mod_plot_39 : decode b_Mod_plot 39 = .ok (.iaload, 1) := by decide +kernel
theorem d_Mod_plot_40 : decode b_Mod_plot 40 = .ok (.goto 9, 3) := by decide +kernel
theorem d_Mod_plot_43 : decode b_Mod_plot 43 = .ok (.aload_n 0, 1) := by decide +kernel
theorem d_Mod_plot_44 : decode b_Mod_plot 44 = .ok (.getfield 25, 3) := by decide +kernel
theorem d_Mod_plot_47 : decode b_Mod_plot 47 = .ok (.iload_n 1, 1) := by decide +kernel
theorem d_Mod_plot_48 : decode b_Mod_plot 48 = .ok (.iaload, 1) := by decide +kernel
theorem d_Mod_plot_49 : decode b_Mod_plot 49 = .ok (.ireturn, 1) := by decide +kernel
theorem d_Mod_crossing_0 : decode b_Mod_crossing 0 = .ok (.aload_n 0, 1) := by decide +kernel
theorem d_Mod_crossing_1 : decode b_Mod_crossing 1 = .ok (.iload_n 1, 1) := by decide +kernel
theorem d_Mod_crossing_2 : decode b_Mod_crossing 2 = .ok (.invokevirtual 154, 3) := by decide +kernel
theorem d_Mod_crossing_5 : decode b_Mod_crossing 5 = .ok (.ifCond .eq 16, 3) := by decide +kernel
theorem d_Mod_crossing_8 : decode b_Mod_crossing 8 = .ok (.aload_n 0, 1) := by decide +kernel
theorem d_Mod_crossing_9 : decode b_Mod_crossing 9 = .ok (.iload_n 2, 1) := by decide +kernel
theorem d_Mod_crossing_10 : decode b_Mod_crossing 10 = .ok (.invokevirtual 154, 3) := by decide +kernel
theorem d_Mod_crossing_13 : decode b_Mod_crossing 13 = .ok (.ifCond .eq 8, 3) := by decide +kernel
theorem d_Mod_crossing_16 : decode b_Mod_crossing 16 = .ok (.iload_n 1, 1) := by decide +kernel
theorem d_Mod_crossing_17 : decode b_Mod_crossing 17 = .ok (.iload_n 2, 1) := by decide +kernel
theorem d_Mod_crossing_18 : decode b_Mod_crossing 18 = .ok (.if_icmp .ne 9, 3) := by decide +kernel
theorem d_Mod_crossing_21 : decode b_Mod_crossing 21 = .ok (.aload_n 0, 1) := by decide +kernel
theorem d_Mod_crossing_22 : decode b_Mod_crossing 22 = .ok (.iconst (-1), 1) := by decide +kernel
theorem d_Mod_crossing_23 : decode b_Mod_crossing 23 = .ok (.invokevirtual 157, 3) := by decide +kernel
theorem d_Mod_crossing_26 : decode b_Mod_crossing 26 = .ok (.ireturn, 1) := by decide +kernel
theorem d_Mod_crossing_27 : decode b_Mod_crossing 27 = .ok (.iload_n 3, 1) := by decide +kernel
theorem d_Mod_crossing_28 : decode b_Mod_crossing 28 = .ok (.iconst 0, 1) := by decide +kernel
theorem d_Mod_crossing_29 : decode b_Mod_crossing 29 = .ok (.iconst 3, 1) := by decide +kernel
theorem d_Mod_crossing_30 : decode b_Mod_crossing 30 = .ok (.invokestatic 62, 3) := by decide +kernel
theorem d_Mod_crossing_33 : decode b_Mod_crossing 33 = .ok (.ifCond .ne 10, 3) := by decide +kernel
theorem d_Mod_crossing_36 : decode b_Mod_crossing 36 = .ok (.aload_n 0, 1) := by decide +kernel
theorem d_Mod_crossing_37 : decode b_Mod_crossing 37 = .ok (.bipush (-2), 2) := by decide +kernel
theorem d_Mod_crossing_39 : decode b_Mod_crossing 39 = .ok (.invokevirtual 157, 3) := by decide +kernel
theorem d_Mod_crossing_42 : decode b_Mod_crossing 42 = .ok (.ireturn, 1) := by decide +kernel
theorem d_Mod_crossing_43 : decode b_Mod_crossing 43 = .ok (.aload_n 0, 1) := by decide +kernel
theorem d_Mod_crossing_44 : decode b_Mod_crossing 44 = .ok (.getfield 13, 3) := by decide +kernel
theorem d_Mod_crossing_47 : decode b_Mod_crossing 47 = .ok (.iload_n 1, 1) := by decide +kernel
theorem d_Mod_crossing_48 : decode b_Mod_crossing 48 = .ok (.iaload, 1) := by decide +kernel
theorem d_Mod_crossing_49 : decode b_Mod_crossing 49 = .ok (.aload_n 0, 1) := by decide +kernel
theorem d_Mod_crossing_50 : decode b_Mod_crossing 50 = .ok (.getfield 16, 3) := by decide +kernel
theorem d_Mod_crossing_53 : decode b_Mod_crossing 53 = .ok (.iload_n 2, 1) := by decide +kernel
theorem d_Mod_crossing_54 : decode b_Mod_crossing 54 = .ok (.iaload, 1) := by decide +kernel
theorem d_Mod_crossing_55 : decode b_Mod_crossing 55 = .ok (.imul, 1) := by decide +kernel
theorem d_Mod_crossing_56 : decode b_Mod_crossing 56 = .ok (.aload_n 0, 1) := by decide +kernel
theorem d_Mod_crossing_57 : decode b_Mod_crossing 57 = .ok (.getfield 13, 3) := by decide +kernel
theorem d_Mod_crossing_60 : decode b_Mod_crossing 60 = .ok (.iload_n 2, 1) := by decide +kernel
theorem d_Mod_crossing_61 : decode b_Mod_crossing 61 = .ok (.iaload, 1) := by decide +kernel
theorem d_Mod_crossing_62 : decode b_Mod_crossing 62 = .ok (.aload_n 0, 1) := by decide +kernel
theorem d_Mod_crossing_63 : decode b_Mod_crossing 63 = .ok (.getfield 16, 3) := by decide +kernel
theorem d_Mod_crossing_66 : decode b_Mod_crossing 66 = .ok (.iload_n 1, 1) := by decide +kernel
theorem d_Mod_crossing_67 : decode b_Mod_crossing 67 = .ok (.iaload, 1) := by decide +kernel
theorem d_Mod_crossing_68 : decode b_Mod_crossing 68 = .ok (.imul, 1) := by decide +kernel
theorem d_Mod_crossing_69 : decode b_Mod_crossing 69 = .ok (.isub, 1) := by decide +kernel
theorem d_Mod_crossing_70 : decode b_Mod_crossing 70 = .ok (.istore 4, 2) := by decide +kernel
theorem d_Mod_crossing_72 : decode b_Mod_crossing 72 = .ok (.iload_n 3, 1) := by decide +kernel
theorem d_Mod_crossing_73 : decode b_Mod_crossing 73 = .ok (.iconst 2, 1) := by decide +kernel
theorem d_Mod_crossing_74 : decode b_Mod_crossing 74 = .ok (.if_icmp .ge 33, 3) := by decide +kernel
theorem d_Mod_crossing_77 : decode b_Mod_crossing 77 = .ok (.aload_n 0, 1) := by decide +kernel
theorem d_Mod_crossing_78 : decode b_Mod_crossing 78 = .ok (.getfield 19, 3) := by decide +kernel
theorem d_Mod_crossing_81 : decode b_Mod_crossing 81 = .ok (.iload_n 1, 1) := by decide +kernel
theorem d_Mod_crossing_82 : decode b_Mod_crossing 82 = .ok (.iaload, 1) := by decide +kernel
theorem d_Mod_crossing_83 : decode b_Mod_crossing 83 = .ok (.aload_n 0, 1) := by decide +kernel
theorem d_Mod_crossing_84 : decode b_Mod_crossing 84 = .ok (.getfield 16, 3) := by decide +kernel
theorem d_Mod_crossing_87 : decode b_Mod_crossing 87 = .ok (.iload_n 2, 1) := by decide +kernel
theorem d_Mod_crossing_88 : decode b_Mod_crossing 88 = .ok (.iaload, 1) := by decide +kernel
theorem d_Mod_crossing_89 : decode b_Mod_crossing 89 = .ok (.imul, 1) := by decide +kernel
theorem d_Mod_crossing_90 : decode b_Mod_crossing 90 = .ok (.aload_n 0, 1) := by decide +kernel
theorem d_Mod_crossing_91 : decode b_Mod_crossing 91 = .ok (.getfield 19, 3) := by decide +kernel
theorem d_Mod_crossing_94 : decode b_Mod_crossing 94 = .ok (.iload_n 2, 1) := by decide +kernel
theorem d_Mod_crossing_95 : decode b_Mod_crossing 95 = .ok (.iaload, 1) := by decide +kernel
theorem d_Mod_crossing_96 : decode b_Mod_crossing 96 = .ok (.aload_n 0, 1) := by decide +kernel
theorem d_Mod_crossing_97 : decode b_Mod_crossing 97 = .ok (.getfield 16, 3) := by decide +kernel
theorem d_Mod_crossing_100 : decode b_Mod_crossing 100 = .ok (.iload_n 1, 1) := by decide +kernel
theorem d_Mod_crossing_101 : decode b_Mod_crossing 101 = .ok (.iaload, 1) := by decide +kernel
theorem d_Mod_crossing_102 : decode b_Mod_crossing 102 = .ok (.imul, 1) := by decide +kernel
theorem d_Mod_crossing_103 : decode b_Mod_crossing 103 = .ok (.isub, 1) := by decide +kernel
theorem d_Mod_crossing_104 : decode b_Mod_crossing 104 = .ok (.goto 30, 3) := by decide +kernel
theorem d_Mod_crossing_107 : decode b_Mod_crossing 107 = .ok (.aload_n 0, 1) := by decide +kernel
theorem d_Mod_crossing_108 : decode b_Mod_crossing 108 = .ok (.getfield 13, 3) := by decide +kernel
theorem d_Mod_crossing_111 : decode b_Mod_crossing 111 = .ok (.iload_n 1, 1) := by decide +kernel
theorem d_Mod_crossing_112 : decode b_Mod_crossing 112 = .ok (.iaload, 1) := by decide +kernel
theorem d_Mod_crossing_113 : decode b_Mod_crossing 113 = .ok (.aload_n 0, 1) := by decide +kernel
theorem d_Mod_crossing_114 : decode b_Mod_crossing 114 = .ok (.getfield 19, 3) := by decide +kernel
theorem d_Mod_crossing_117 : decode b_Mod_crossing 117 = .ok (.iload_n 2, 1) := by decide +kernel
theorem d_Mod_crossing_118 : decode b_Mod_crossing 118 = .ok (.iaload, 1) := by decide +kernel
theorem d_Mod_crossing_119 : decode b_Mod_crossing 119 = .ok (.imul, 1) := by decide +kernel
theorem d_Mod_crossing_120 : decode b_Mod_crossing 120 = .ok (.aload_n 0, 1) := by decide +kernel
theorem d_Mod_crossing_121 : decode b_Mod_crossing 121 = .ok (.getfield 13, 3) := by decide +kernel
theorem d_Mod_crossing_124 : decode b_Mod_crossing 124 = .ok (.iload_n 2, 1) := by decide +kernel
theorem d_Mod_crossing_125 : decode b_Mod_crossing 125 = .ok (.iaload, 1) := by decide +kernel
theorem d_Mod_crossing_126 : decode b_Mod_crossing 126 = .ok (.aload_n 0, 1) := by decide +kernel
theorem d_Mod_crossing_127 : decode b_Mod_crossing 127 = .ok (.getfield 19, 3) := by decide +kernel
theorem d_Mod_crossing_130 : decode b_Mod_crossing 130 = .ok (.iload_n 1, 1) := by decide +kernel
theorem d_Mod_crossing_131 : decode b_Mod_crossing 131 = .ok (.iaload, 1) := by decide +kernel
theorem d_Mod_crossing_132 : decode b_Mod_crossing 132 = .ok (.imul, 1) := by decide +kernel
theorem d_Mod_crossing_133 : decode b_Mod_crossing 133 = .ok (.isub, 1) := by decide +kernel
theorem d_Mod_crossing_134 : decode b_Mod_crossing 134 = .ok (.istore 5, 2) := by decide +kernel
theorem d_Mod_crossing_136 : decode b_Mod_crossing 136 = .ok (.iload 4, 2) := by decide +kernel
theorem d_Mod_crossing_138 : decode b_Mod_crossing 138 = .ok (.ifCond .ge 13, 3) := by decide +kernel
theorem d_Mod_crossing_141 : decode b_Mod_crossing 141 = .ok (.iload 4, 2) := by decide +kernel
theorem d_Mod_crossing_143 : decode b_Mod_crossing 143 = .ok (.ineg, 1) := by decide +kernel
theorem d_Mod_crossing_144 : decode b_Mod_crossing 144 = .ok (.istore 4, 2) := by decide +kernel
theorem d_Mod_crossing_146 : decode b_Mod_crossing 146 = .ok (.iload 5, 2) := by decide +kernel
theorem d_Mod_crossing_148 : decode b_Mod_crossing 148 = .ok (.ineg, 1) := by decide +kernel
theorem d_Mod_crossing_149 : decode b_Mod_crossing 149 = .ok (.istore 5, 2) := by decide +kernel
theorem d_Mod_crossing_151 : decode b_Mod_crossing 151 = .ok (.iload 5, 2) := by decide +kernel
theorem d_Mod_crossing_153 : decode b_Mod_crossing 153 = .ok (.invokestatic 166, 3) := by decide +kernel
theorem d_Mod_crossing_156 : decode b_Mod_crossing 156 = .ok (.istore 6, 2) := by decide +kernel
theorem d_Mod_crossing_158 : decode b_Mod_crossing 158 = .ok (.iload 4, 2) := by decide +kernel
theorem d_Mod_crossing_160 : decode b_Mod_crossing 160 = .ok (.istore 7, 2) := by decide +kernel
theorem d_Mod_crossing_162 : decode b_Mod_crossing 162 = .ok (.iload 7, 2) := by decide +kernel
theorem d_Mod_crossing_164 : decode b_Mod_crossing 164 = .ok (.ifCond .eq 21, 3) := by decide +kernel
theorem d_Mod_crossing_167 : decode b_Mod_crossing 167 = .ok (.iload 6, 2) := by decide +kernel
theorem d_Mod_crossing_169 : decode b_Mod_crossing 169 = .ok (.iload 7, 2) := by decide +kernel
theorem d_Mod_crossing_171 : decode b_Mod_crossing 171 = .ok (.irem, 1) := by decide +kernel
theorem d_Mod_crossing_172 : decode b_Mod_crossing 172 = .ok (.istore 8, 2) := by decide +kernel
theorem d_Mod_crossing_174 : decode b_Mod_crossing 174 = .ok (.iload 7, 2) := by decide +kernel
theorem d_Mod_crossing_176 : decode b_Mod_crossing 176 = .ok (.istore 6, 2) := by decide +kernel
theorem d_Mod_crossing_178 : decode b_Mod_crossing 178 = .ok (.iload 8, 2) := by decide +kernel
theorem d_Mod_crossing_180 : decode b_Mod_crossing 180 = .ok (.istore 7, 2) := by decide +kernel
theorem d_Mod_crossing_182 : decode b_Mod_crossing 182 = .ok (.goto (-20), 3) := by decide +kernel
theorem d_Mod_crossing_185 : decode b_Mod_crossing 185 = .ok (.iload_n 3, 1) := by decide +kernel
theorem d_Mod_crossing_186 : decode b_Mod_crossing 186 = .ok (.iconst 2, 1) := by decide +kernel
theorem d_Mod_crossing_187 : decode b_Mod_crossing 187 = .ok (.irem, 1) := by decide +kernel
theorem d_Mod_crossing_188 : decode b_Mod_crossing 188 = .ok (.ifCond .ne 11, 3) := by decide +kernel
theorem d_Mod_crossing_191 : decode b_Mod_crossing 191 = .ok (.iload 5, 2) := by decide +kernel
theorem d_Mod_crossing_193 : decode b_Mod_crossing 193 = .ok (.iload 6, 2) := by decide +kernel
theorem d_Mod_crossing_195 : decode b_Mod_crossing 195 = .ok (.idiv, 1) := by decide +kernel
theorem d_Mod_crossing_196 : decode b_Mod_crossing 196 = .ok (.goto 8, 3) := by decide +kernel
theorem d_Mod_crossing_199 : decode b_Mod_crossing 199 = .ok (.iload 4, 2) := by decide +kernel
theorem d_Mod_crossing_201 : decode b_Mod_crossing 201 = .ok (.iload 6, 2) := by decide +kernel
theorem d_Mod_crossing_203 : decode b_Mod_crossing 203 = .ok (.idiv, 1) := by decide +kernel
theorem d_Mod_crossing_204 : decode b_Mod_crossing 204 = .ok (.ireturn, 1) := by decide +kernel
theorem d_Mod_quarters_0 : decode b_Mod_quarters 0 = .ok (.aload_n 0, 1) := by decide +kernel
theorem d_Mod_quarters_1 : decode b_Mod_quarters 1 = .ok (.aload_n 0, 1) := by decide +kernel
theorem d_Mod_quarters_2 : decode b_Mod_quarters 2 = .ok (.getfield 58, 3) := by decide +kernel
theorem d_Mod_quarters_5 : decode b_Mod_quarters 5 = .ok (.invokevirtual 146, 3) := by decide +kernel
theorem d_Mod_quarters_8 : decode b_Mod_quarters 8 = .ok (.aload_n 0, 1) := by decide +kernel
theorem d_Mod_quarters_9 : decode b_Mod_quarters 9 = .ok (.invokevirtual 169, 3) := by decide +kernel
theorem d_Mod_quarters_12 : decode b_Mod_quarters 12 = .ok (.ireturn, 1) := by decide +kernel
theorem d_Mod_open_0 : decode b_Mod_open 0 = .ok (.aload_n 0, 1) := by decide +kernel
theorem d_Mod_open_1 : decode b_Mod_open 1 = .ok (.aload_n 0, 1) := by decide +kernel
theorem d_Mod_open_2 : decode b_Mod_open 2 = .ok (.getfield 58, 3) := by decide +kernel
theorem d_Mod_open_5 : decode b_Mod_open 5 = .ok (.invokevirtual 146, 3) := by decide +kernel
theorem d_Mod_open_8 : decode b_Mod_open 8 = .ok (.iconst 0, 1) := by decide +kernel
theorem d_Mod_open_9 : decode b_Mod_open 9 = .ok (.istore_n 1, 1) := by decide +kernel
theorem d_Mod_open_10 : decode b_Mod_open 10 = .ok (.iconst 0, 1) := by decide +kernel
theorem d_Mod_open_11 : decode b_Mod_open 11 = .ok (.istore_n 2, 1) := by decide +kernel
theorem d_Mod_open_12 : decode b_Mod_open 12 = .ok (.iload_n 2, 1) := by decide +kernel
theorem d_Mod_open_13 : decode b_Mod_open 13 = .ok (.sipush 128, 3) := by decide +kernel
theorem d_Mod_open_16 : decode b_Mod_open 16 = .ok (.if_icmp .ge 21, 3) := by decide +kernel
theorem d_Mod_open_19 : decode b_Mod_open 19 = .ok (.aload_n 0, 1) := by decide +kernel
theorem d_Mod_open_20 : decode b_Mod_open 20 = .ok (.getfield 49, 3) := by decide +kernel
theorem d_Mod_open_23 : decode b_Mod_open 23 = .ok (.iload_n 2, 1) := by decide +kernel
theorem d_Mod_open_24 : decode b_Mod_open 24 = .ok (.baload, 1) := by decide +kernel
theorem d_Mod_open_25 : decode b_Mod_open 25 = .ok (.ifCond .eq 6, 3) := by decide +kernel
theorem d_Mod_open_28 : decode b_Mod_open 28 = .ok (.iinc 1 1, 3) := by decide +kernel
theorem d_Mod_open_31 : decode b_Mod_open 31 = .ok (.iinc 2 1, 3) := by decide +kernel
theorem d_Mod_open_34 : decode b_Mod_open 34 = .ok (.goto (-22), 3) := by decide +kernel
theorem d_Mod_open_37 : decode b_Mod_open 37 = .ok (.iload_n 1, 1) := by decide +kernel
theorem d_Mod_open_38 : decode b_Mod_open 38 = .ok (.ireturn, 1) := by decide +kernel
theorem d_Mod_with_0 : decode b_Mod_with 0 = .ok (.iload_n 1, 1) := by decide +kernel
theorem d_Mod_with_1 : decode b_Mod_with 1 = .ok (.ifCond .ge 10, 3) := by decide +kernel
theorem d_Mod_with_4 : decode b_Mod_with 4 = .ok (.aload_n 0, 1) := by decide +kernel
theorem d_Mod_with_5 : decode b_Mod_with 5 = .ok (.bipush (-4), 2) := by decide +kernel
theorem d_Mod_with_7 : decode b_Mod_with 7 = .ok (.invokevirtual 54, 3) := by decide +kernel
theorem d_Mod_with_10 : decode b_Mod_with 10 = .ok (.ireturn, 1) := by decide +kernel
theorem d_Mod_with_11 : decode b_Mod_with 11 = .ok (.iload_n 1, 1) := by decide +kernel
theorem d_Mod_with_12 : decode b_Mod_with 12 = .ok (.bipush 12, 2) := by decide +kernel
theorem d_Mod_with_14 : decode b_Mod_with 14 = .ok (.if_icmp .le 10, 3) := by decide +kernel
theorem d_Mod_with_17 : decode b_Mod_with 17 = .ok (.aload_n 0, 1) := by decide +kernel
theorem d_Mod_with_18 : decode b_Mod_with 18 = .ok (.bipush (-6), 2) := by decide +kernel
theorem d_Mod_with_20 : decode b_Mod_with 20 = .ok (.invokevirtual 54, 3) := by decide +kernel
theorem d_Mod_with_23 : decode b_Mod_with 23 = .ok (.ireturn, 1) := by decide +kernel
theorem d_Mod_with_24 : decode b_Mod_with 24 = .ok (.aload_n 0, 1) := by decide +kernel
theorem d_Mod_with_25 : decode b_Mod_with 25 = .ok (.aload_n 0, 1) := by decide +kernel
theorem d_Mod_with_26 : decode b_Mod_with 26 = .ok (.getfield 58, 3) := by decide +kernel
theorem d_Mod_with_29 : decode b_Mod_with 29 = .ok (.invokevirtual 146, 3) := by decide +kernel
theorem d_Mod_with_32 : decode b_Mod_with 32 = .ok (.iconst 0, 1) := by decide +kernel
theorem d_Mod_with_33 : decode b_Mod_with 33 = .ok (.istore_n 2, 1) := by decide +kernel
theorem d_Mod_with_34 : decode b_Mod_with 34 = .ok (.iconst 0, 1) := by decide +kernel
theorem d_Mod_with_35 : decode b_Mod_with 35 = .ok (.istore_n 3, 1) := by decide +kernel
theorem d_Mod_with_36 : decode b_Mod_with 36 = .ok (.iload_n 3, 1) := by decide +kernel
theorem d_Mod_with_37 : decode b_Mod_with 37 = .ok (.sipush 128, 3) := by decide +kernel
theorem d_Mod_with_40 : decode b_Mod_with 40 = .ok (.if_icmp .ge 24, 3) := by decide +kernel
theorem d_Mod_with_43 : decode b_Mod_with 43 = .ok (.aload_n 0, 1) := by decide +kernel
theorem d_Mod_with_44 : decode b_Mod_with 44 = .ok (.getfield 46, 3) := by decide +kernel
theorem d_Mod_with_47 : decode b_Mod_with 47 = .ok (.iload_n 3, 1) := by decide +kernel
theorem d_Mod_with_48 : decode b_Mod_with 48 = .ok (.iaload, 1) := by decide +kernel
theorem d_Mod_with_49 : decode b_Mod_with 49 = .ok (.iload_n 1, 1) := by decide +kernel
theorem d_Mod_with_50 : decode b_Mod_with 50 = .ok (.iconst 1, 1) := by decide +kernel
theorem d_Mod_with_51 : decode b_Mod_with 51 = .ok (.iadd, 1) := by decide +kernel
theorem d_Mod_with_52 : decode b_Mod_with 52 = .ok (.if_icmp .ne 6, 3) := by decide +kernel
theorem d_Mod_with_55 : decode b_Mod_with 55 = .ok (.iinc 2 1, 3) := by decide +kernel
theorem d_Mod_with_58 : decode b_Mod_with 58 = .ok (.iinc 3 1, 3) := by decide +kernel
theorem d_Mod_with_61 : decode b_Mod_with 61 = .ok (.goto (-25), 3) := by decide +kernel
theorem d_Mod_with_64 : decode b_Mod_with 64 = .ok (.iload_n 2, 1) := by decide +kernel
theorem d_Mod_with_65 : decode b_Mod_with 65 = .ok (.ireturn, 1) := by decide +kernel
theorem d_Mod_corners_0 : decode b_Mod_corners 0 = .ok (.aload_n 0, 1) := by decide +kernel
theorem d_Mod_corners_1 : decode b_Mod_corners 1 = .ok (.iload_n 1, 1) := by decide +kernel
theorem d_Mod_corners_2 : decode b_Mod_corners 2 = .ok (.invokevirtual 173, 3) := by decide +kernel
theorem d_Mod_corners_5 : decode b_Mod_corners 5 = .ok (.ifCond .eq 14, 3) := by decide +kernel
theorem d_Mod_corners_8 : decode b_Mod_corners 8 = .ok (.aload_n 0, 1) := by decide +kernel
theorem d_Mod_corners_9 : decode b_Mod_corners 9 = .ok (.getfield 46, 3) := by decide +kernel
theorem d_Mod_corners_12 : decode b_Mod_corners 12 = .ok (.iload_n 1, 1) := by decide +kernel
theorem d_Mod_corners_13 : decode b_Mod_corners 13 = .ok (.iaload, 1) := by decide +kernel
theorem d_Mod_corners_14 : decode b_Mod_corners 14 = .ok (.iconst 1, 1) := by decide +kernel
theorem d_Mod_corners_15 : decode b_Mod_corners 15 = .ok (.isub, 1) := by decide +kernel
theorem d_Mod_corners_16 : decode b_Mod_corners 16 = .ok (.goto 8, 3) := by decide +kernel
theorem d_Mod_corners_19 : decode b_Mod_corners 19 = .ok (.aload_n 0, 1) := by decide +kernel
theorem d_Mod_corners_20 : decode b_Mod_corners 20 = .ok (.iconst (-1), 1) := by decide +kernel
theorem d_Mod_corners_21 : decode b_Mod_corners 21 = .ok (.invokevirtual 54, 3) := by decide +kernel
theorem d_Mod_corners_24 : decode b_Mod_corners 24 = .ok (.ireturn, 1) := by decide +kernel
theorem d_Mod_sidesOf_0 : decode b_Mod_sidesOf 0 = .ok (.iconst 0, 1) := by decide +kernel
theorem d_Mod_sidesOf_1 : decode b_Mod_sidesOf 1 = .ok (.istore_n 2, 1) := by decide +kernel
theorem d_Mod_sidesOf_2 : decode b_Mod_sidesOf 2 = .ok (.iconst 0, 1) := by decide +kernel
theorem d_Mod_sidesOf_3 : decode b_Mod_sidesOf 3 = .ok (.istore_n 3, 1) := by decide +kernel
theorem d_Mod_sidesOf_4 : decode b_Mod_sidesOf 4 = .ok (.iload_n 3, 1) := by decide +kernel
theorem d_Mod_sidesOf_5 : decode b_Mod_sidesOf 5 = .ok (.aload_n 0, 1) := by decide +kernel
theorem d_Mod_sidesOf_6 : decode b_Mod_sidesOf 6 = .ok (.getfield 58, 3) := by decide +kernel
theorem d_Mod_sidesOf_9 : decode b_Mod_sidesOf 9 = .ok (.if_icmp .ge 25, 3) := by decide +kernel
theorem d_Mod_sidesOf_12 : decode b_Mod_sidesOf 12 = .ok (.aload_n 0, 1) := by decide +kernel
theorem d_Mod_sidesOf_13 : decode b_Mod_sidesOf 13 = .ok (.getfield 46, 3) := by decide +kernel
theorem d_Mod_sidesOf_16 : decode b_Mod_sidesOf 16 = .ok (.iload_n 1, 1) := by decide +kernel
theorem d_Mod_sidesOf_17 : decode b_Mod_sidesOf 17 = .ok (.iconst 1, 1) := by decide +kernel
theorem d_Mod_sidesOf_18 : decode b_Mod_sidesOf 18 = .ok (.iload_n 3, 1) := by decide +kernel
theorem d_Mod_sidesOf_19 : decode b_Mod_sidesOf 19 = .ok (.ishl, 1) := by decide +kernel
theorem d_Mod_sidesOf_20 : decode b_Mod_sidesOf 20 = .ok (.ixor, 1) := by decide +kernel
theorem d_Mod_sidesOf_21 : decode b_Mod_sidesOf 21 = .ok (.iaload, 1) := by decide +kernel
theorem d_Mod_sidesOf_22 : decode b_Mod_sidesOf 22 = .ok (.ifCond .le 6, 3) := by decide +kernel
theorem d_Mod_sidesOf_25 : decode b_Mod_sidesOf 25 = .ok (.iinc 2 1, 3) := by decide +kernel
theorem d_Mod_sidesOf_28 : decode b_Mod_sidesOf 28 = .ok (.iinc 3 1, 3) := by decide +kernel
theorem d_Mod_sidesOf_31 : decode b_Mod_sidesOf 31 = .ok (.goto (-27), 3) := by decide +kernel
theorem d_Mod_sidesOf_34 : decode b_Mod_sidesOf 34 = .ok (.iload_n 2, 1) := by decide +kernel
theorem d_Mod_sidesOf_35 : decode b_Mod_sidesOf 35 = .ok (.ireturn, 1) := by decide +kernel
theorem d_Mod_sides_0 : decode b_Mod_sides 0 = .ok (.aload_n 0, 1) := by decide +kernel
theorem d_Mod_sides_1 : decode b_Mod_sides 1 = .ok (.iload_n 1, 1) := by decide +kernel
theorem d_Mod_sides_2 : decode b_Mod_sides 2 = .ok (.invokevirtual 173, 3) := by decide +kernel
theorem d_Mod_sides_5 : decode b_Mod_sides 5 = .ok (.ifCond .eq 11, 3) := by decide +kernel
theorem d_Mod_sides_8 : decode b_Mod_sides 8 = .ok (.aload_n 0, 1) := by decide +kernel
theorem d_Mod_sides_9 : decode b_Mod_sides 9 = .ok (.iload_n 1, 1) := by decide +kernel
theorem d_Mod_sides_10 : decode b_Mod_sides 10 = .ok (.invokevirtual 176, 3) := by decide +kernel
theorem d_Mod_sides_13 : decode b_Mod_sides 13 = .ok (.goto 8, 3) := by decide +kernel
theorem d_Mod_sides_16 : decode b_Mod_sides 16 = .ok (.aload_n 0, 1) := by decide +kernel
theorem d_Mod_sides_17 : decode b_Mod_sides 17 = .ok (.iconst (-1), 1) := by decide +kernel
theorem d_Mod_sides_18 : decode b_Mod_sides 18 = .ok (.invokevirtual 54, 3) := by decide +kernel
theorem d_Mod_sides_21 : decode b_Mod_sides 21 = .ok (.ireturn, 1) := by decide +kernel
theorem d_Mod_isOpen_0 : decode b_Mod_isOpen 0 = .ok (.aload_n 0, 1) := by decide +kernel
theorem d_Mod_isOpen_1 : decode b_Mod_isOpen 1 = .ok (.iload_n 1, 1) := by decide +kernel
theorem d_Mod_isOpen_2 : decode b_Mod_isOpen 2 = .ok (.invokevirtual 173, 3) := by decide +kernel
theorem d_Mod_isOpen_5 : decode b_Mod_isOpen 5 = .ok (.ifCond .ne 9, 3) := by decide +kernel
theorem d_Mod_isOpen_8 : decode b_Mod_isOpen 8 = .ok (.aload_n 0, 1) := by decide +kernel
theorem d_Mod_isOpen_9 : decode b_Mod_isOpen 9 = .ok (.iconst (-1), 1) := by decide +kernel
theorem d_Mod_isOpen_10 : decode b_Mod_isOpen 10 = .ok (.invokevirtual 54, 3) := by decide +kernel
theorem d_Mod_isOpen_13 : decode b_Mod_isOpen 13 = .ok (.ireturn, 1) := by decide +kernel
theorem d_Mod_isOpen_14 : decode b_Mod_isOpen 14 = .ok (.aload_n 0, 1) := by decide +kernel
theorem d_Mod_isOpen_15 : decode b_Mod_isOpen 15 = .ok (.getfield 49, 3) := by decide +kernel
theorem d_Mod_isOpen_18 : decode b_Mod_isOpen 18 = .ok (.iload_n 1, 1) := by decide +kernel
theorem d_Mod_isOpen_19 : decode b_Mod_isOpen 19 = .ok (.baload, 1) := by decide +kernel
theorem d_Mod_isOpen_20 : decode b_Mod_isOpen 20 = .ok (.ifCond .eq 7, 3) := by decide +kernel
theorem d_Mod_isOpen_23 : decode b_Mod_isOpen 23 = .ok (.iconst 1, 1) := by decide +kernel
theorem d_Mod_isOpen_24 : decode b_Mod_isOpen 24 = .ok (.goto 4, 3) := by decide +kernel
theorem d_Mod_isOpen_27 : decode b_Mod_isOpen 27 = .ok (.iconst 0, 1) := by decide +kernel
theorem d_Mod_isOpen_28 : decode b_Mod_isOpen 28 = .ok (.ireturn, 1) := by decide +kernel
theorem d_Mod_whole_0 : decode b_Mod_whole 0 = .ok (.aload_n 0, 1) := by decide +kernel
theorem d_Mod_whole_1 : decode b_Mod_whole 1 = .ok (.aload_n 0, 1) := by decide +kernel
theorem d_Mod_whole_2 : decode b_Mod_whole 2 = .ok (.getfield 58, 3) := by decide +kernel
theorem d_Mod_whole_5 : decode b_Mod_whole 5 = .ok (.invokevirtual 146, 3) := by decide +kernel
theorem d_Mod_whole_8 : decode b_Mod_whole 8 = .ok (.iconst 0, 1) := by decide +kernel
theorem d_Mod_whole_9 : decode b_Mod_whole 9 = .ok (.istore_n 1, 1) := by decide +kernel
theorem d_Mod_whole_10 : decode b_Mod_whole 10 = .ok (.iconst 0, 1) := by decide +kernel
theorem d_Mod_whole_11 : decode b_Mod_whole 11 = .ok (.istore_n 2, 1) := by decide +kernel
theorem d_Mod_whole_12 : decode b_Mod_whole 12 = .ok (.iload_n 2, 1) := by decide +kernel
theorem d_Mod_whole_13 : decode b_Mod_whole 13 = .ok (.sipush 128, 3) := by decide +kernel
theorem d_Mod_whole_16 : decode b_Mod_whole 16 = .ok (.if_icmp .ge 33, 3) := by decide +kernel
theorem d_Mod_whole_19 : decode b_Mod_whole 19 = .ok (.aload_n 0, 1) := by decide +kernel
theorem d_Mod_whole_20 : decode b_Mod_whole 20 = .ok (.getfield 46, 3) := by decide +kernel
theorem d_Mod_whole_23 : decode b_Mod_whole 23 = .ok (.iload_n 2, 1) := by decide +kernel
theorem d_Mod_whole_24 : decode b_Mod_whole 24 = .ok (.iaload, 1) := by decide +kernel
theorem d_Mod_whole_25 : decode b_Mod_whole 25 = .ok (.ifCond .le 18, 3) := by decide +kernel
theorem d_Mod_whole_28 : decode b_Mod_whole 28 = .ok (.aload_n 0, 1) := by decide +kernel
theorem d_Mod_whole_29 : decode b_Mod_whole 29 = .ok (.iload_n 2, 1) := by decide +kernel
theorem d_Mod_whole_30 : decode b_Mod_whole 30 = .ok (.invokevirtual 176, 3) := by decide +kernel
theorem d_Mod_whole_33 : decode b_Mod_whole 33 = .ok (.aload_n 0, 1) := by decide +kernel
theorem d_Mod_whole_34 : decode b_Mod_whole 34 = .ok (.getfield 58, 3) := by decide +kernel
theorem d_Mod_whole_37 : decode b_Mod_whole 37 = .ok (.if_icmp .ne 6, 3) := by decide +kernel
theorem d_Mod_whole_40 : decode b_Mod_whole 40 = .ok (.iinc 1 1, 3) := by decide +kernel
theorem d_Mod_whole_43 : decode b_Mod_whole 43 = .ok (.iinc 2 1, 3) := by decide +kernel
theorem d_Mod_whole_46 : decode b_Mod_whole 46 = .ok (.goto (-34), 3) := by decide +kernel
theorem d_Mod_whole_49 : decode b_Mod_whole 49 = .ok (.iload_n 1, 1) := by decide +kernel
theorem d_Mod_whole_50 : decode b_Mod_whole 50 = .ok (.ireturn, 1) := by decide +kernel
theorem d_Mod_points_0 : decode b_Mod_points 0 = .ok (.iload_n 1, 1) := by decide +kernel
theorem d_Mod_points_1 : decode b_Mod_points 1 = .ok (.iconst 0, 1) := by decide +kernel
theorem d_Mod_points_2 : decode b_Mod_points 2 = .ok (.iconst 2, 1) := by decide +kernel
theorem d_Mod_points_3 : decode b_Mod_points 3 = .ok (.invokestatic 62, 3) := by decide +kernel
theorem d_Mod_points_6 : decode b_Mod_points 6 = .ok (.ifCond .ne 10, 3) := by decide +kernel
theorem d_Mod_points_9 : decode b_Mod_points 9 = .ok (.aload_n 0, 1) := by decide +kernel
theorem d_Mod_points_10 : decode b_Mod_points 10 = .ok (.bipush (-2), 2) := by decide +kernel
theorem d_Mod_points_12 : decode b_Mod_points 12 = .ok (.invokevirtual 54, 3) := by decide +kernel
theorem d_Mod_points_15 : decode b_Mod_points 15 = .ok (.ireturn, 1) := by decide +kernel
theorem d_Mod_points_16 : decode b_Mod_points 16 = .ok (.aload_n 0, 1) := by decide +kernel
theorem d_Mod_points_17 : decode b_Mod_points 17 = .ok (.aload_n 0, 1) := by decide +kernel
theorem d_Mod_points_18 : decode b_Mod_points 18 = .ok (.getfield 58, 3) := by decide +kernel
theorem d_Mod_points_21 : decode b_Mod_points 21 = .ok (.invokevirtual 146, 3) := by decide +kernel
theorem d_Mod_points_24 : decode b_Mod_points 24 = .ok (.iload_n 1, 1) := by decide +kernel
theorem d_Mod_points_25 : decode b_Mod_points 25 = .ok (.ifCond .ne 10, 3) := by decide +kernel
theorem d_Mod_points_28 : decode b_Mod_points 28 = .ok (.aload_n 0, 1) := by decide +kernel
theorem d_Mod_points_29 : decode b_Mod_points 29 = .ok (.getfield 112, 3) := by decide +kernel
theorem d_Mod_points_32 : decode b_Mod_points 32 = .ok (.goto 19, 3) := by decide +kernel
theorem d_Mod_points_35 : decode b_Mod_points 35 = .ok (.iload_n 1, 1) := by decide +kernel
theorem d_Mod_points_36 : decode b_Mod_points 36 = .ok (.iconst 1, 1) := by decide +kernel
theorem d_Mod_points_37 : decode b_Mod_points 37 = .ok (.if_icmp .ne 10, 3) := by decide +kernel
theorem d_Mod_points_40 : decode b_Mod_points 40 = .ok (.aload_n 0, 1) := by decide +kernel
theorem d_Mod_points_41 : decode b_Mod_points 41 = .ok (.getfield 115, 3) := by decide +kernel
theorem d_Mod_points_44 : decode b_Mod_points 44 = .ok (.goto 7, 3) := by decide +kernel
theorem d_Mod_points_47 : decode b_Mod_points 47 = .ok (.aload_n 0, 1) := by decide +kernel
theorem d_Mod_points_48 : decode b_Mod_points 48 = .ok (.getfield 118, 3) := by decide +kernel
theorem d_Mod_points_51 : decode b_Mod_points 51 = .ok (.ireturn, 1) := by decide +kernel
theorem d_Mod_lamps_0 : decode b_Mod_lamps 0 = .ok (.iconst 0, 1) := by decide +kernel
theorem d_Mod_lamps_1 : decode b_Mod_lamps 1 = .ok (.istore_n 1, 1) := by decide +kernel
theorem d_Mod_lamps_2 : decode b_Mod_lamps 2 = .ok (.iconst 0, 1) := by decide +kernel
theorem d_Mod_lamps_3 : decode b_Mod_lamps 3 = .ok (.istore_n 2, 1) := by decide +kernel
theorem d_Mod_lamps_4 : decode b_Mod_lamps 4 = .ok (.iload_n 2, 1) := by decide +kernel
theorem d_Mod_lamps_5 : decode b_Mod_lamps 5 = .ok (.aload_n 0, 1) := by decide +kernel
theorem d_Mod_lamps_6 : decode b_Mod_lamps 6 = .ok (.getfield 58, 3) := by decide +kernel
theorem d_Mod_lamps_9 : decode b_Mod_lamps 9 = .ok (.if_icmp .ge 17, 3) := by decide +kernel
theorem d_Mod_lamps_12 : decode b_Mod_lamps 12 = .ok (.iload_n 1, 1) := by decide +kernel
theorem d_Mod_lamps_13 : decode b_Mod_lamps 13 = .ok (.aload_n 0, 1) := by decide +kernel
theorem d_Mod_lamps_14 : decode b_Mod_lamps 14 = .ok (.iload_n 2, 1) := by decide +kernel
theorem d_Mod_lamps_15 : decode b_Mod_lamps 15 = .ok (.invokevirtual 160, 3) := by decide +kernel
theorem d_Mod_lamps_18 : decode b_Mod_lamps 18 = .ok (.iadd, 1) := by decide +kernel
theorem d_Mod_lamps_19 : decode b_Mod_lamps 19 = .ok (.istore_n 1, 1) := by decide +kernel
theorem d_Mod_lamps_20 : decode b_Mod_lamps 20 = .ok (.iinc 2 1, 3) := by decide +kernel
theorem d_Mod_lamps_23 : decode b_Mod_lamps 23 = .ok (.goto (-19), 3) := by decide +kernel
theorem d_Mod_lamps_26 : decode b_Mod_lamps 26 = .ok (.iload_n 1, 1) := by decide +kernel
theorem d_Mod_lamps_27 : decode b_Mod_lamps 27 = .ok (.ireturn, 1) := by decide +kernel
theorem d_Mod_at_0 : decode b_Mod_at 0 = .ok (.iconst 0, 1) := by decide +kernel
theorem d_Mod_at_1 : decode b_Mod_at 1 = .ok (.istore_n 3, 1) := by decide +kernel
theorem d_Mod_at_2 : decode b_Mod_at 2 = .ok (.iconst 0, 1) := by decide +kernel
theorem d_Mod_at_3 : decode b_Mod_at 3 = .ok (.istore 4, 2) := by decide +kernel
theorem d_Mod_at_5 : decode b_Mod_at 5 = .ok (.iload 4, 2) := by decide +kernel
theorem d_Mod_at_7 : decode b_Mod_at 7 = .ok (.aload_n 0, 1) := by decide +kernel
theorem d_Mod_at_8 : decode b_Mod_at 8 = .ok (.getfield 58, 3) := by decide +kernel
theorem d_Mod_at_11 : decode b_Mod_at 11 = .ok (.if_icmp .ge 39, 3) := by decide +kernel
theorem d_Mod_at_14 : decode b_Mod_at 14 = .ok (.aload_n 0, 1) := by decide +kernel
theorem d_Mod_at_15 : decode b_Mod_at 15 = .ok (.iload 4, 2) := by decide +kernel
theorem d_Mod_at_17 : decode b_Mod_at 17 = .ok (.iload_n 1, 1) := by decide +kernel
theorem d_Mod_at_18 : decode b_Mod_at 18 = .ok (.iload_n 2, 1) := by decide +kernel
theorem d_Mod_at_19 : decode b_Mod_at 19 = .ok (.invokevirtual 179, 3) := by decide +kernel
theorem d_Mod_at_22 : decode b_Mod_at 22 = .ok (.istore 5, 2) := by decide +kernel
theorem d_Mod_at_24 : decode b_Mod_at 24 = .ok (.iload 5, 2) := by decide +kernel
theorem d_Mod_at_26 : decode b_Mod_at 26 = .ok (.ifCond .ne 6, 3) := by decide +kernel
theorem d_Mod_at_29 : decode b_Mod_at 29 = .ok (.bipush (-9), 2) := by decide +kernel
theorem d_Mod_at_31 : decode b_Mod_at 31 = .ok (.ireturn, 1) := by decide +kernel
theorem d_Mod_at_32 : decode b_Mod_at 32 = .ok (.iload 5, 2) := by decide +kernel
theorem d_Mod_at_34 : decode b_Mod_at 34 = .ok (.ifCond .le 10, 3) := by decide +kernel
theorem d_Mod_at_37 : decode b_Mod_at 37 = .ok (.iload_n 3, 1) := by decide +kernel
theorem d_Mod_at_38 : decode b_Mod_at 38 = .ok (.iconst 1, 1) := by decide +kernel
theorem d_Mod_at_39 : decode b_Mod_at 39 = .ok (.iload 4, 2) := by decide +kernel
theorem d_Mod_at_41 : decode b_Mod_at 41 = .ok (.ishl, 1) := by decide +kernel
theorem d_Mod_at_42 : decode b_Mod_at 42 = .ok (.ior, 1) := by decide +kernel
theorem d_Mod_at_43 : decode b_Mod_at 43 = .ok (.istore_n 3, 1) := by decide +kernel
theorem d_Mod_at_44 : decode b_Mod_at 44 = .ok (.iinc 4 1, 3) := by decide +kernel
theorem d_Mod_at_47 : decode b_Mod_at 47 = .ok (.goto (-42), 3) := by decide +kernel
theorem d_Mod_at_50 : decode b_Mod_at 50 = .ok (.iload_n 3, 1) := by decide +kernel
theorem d_Mod_at_51 : decode b_Mod_at 51 = .ok (.ireturn, 1) := by decide +kernel
theorem d_Mod_whereIs_0 : decode b_Mod_whereIs 0 = .ok (.aload_n 0, 1) := by decide +kernel
theorem d_Mod_whereIs_1 : decode b_Mod_whereIs 1 = .ok (.aload_n 0, 1) := by decide +kernel
theorem d_Mod_whereIs_2 : decode b_Mod_whereIs 2 = .ok (.getfield 22, 3) := by decide +kernel
theorem d_Mod_whereIs_5 : decode b_Mod_whereIs 5 = .ok (.iload_n 1, 1) := by decide +kernel
theorem d_Mod_whereIs_6 : decode b_Mod_whereIs 6 = .ok (.iaload, 1) := by decide +kernel
theorem d_Mod_whereIs_7 : decode b_Mod_whereIs 7 = .ok (.aload_n 0, 1) := by decide +kernel
theorem d_Mod_whereIs_8 : decode b_Mod_whereIs 8 = .ok (.getfield 25, 3) := by decide +kernel
theorem d_Mod_whereIs_11 : decode b_Mod_whereIs 11 = .ok (.iload_n 1, 1) := by decide +kernel
theorem d_Mod_whereIs_12 : decode b_Mod_whereIs 12 = .ok (.iaload, 1) := by decide +kernel
theorem d_Mod_whereIs_13 : decode b_Mod_whereIs 13 = .ok (.invokevirtual 182, 3) := by decide +kernel
theorem d_Mod_whereIs_16 : decode b_Mod_whereIs 16 = .ok (.ireturn, 1) := by decide +kernel
theorem d_Mod_where_0 : decode b_Mod_where 0 = .ok (.aload_n 0, 1) := by decide +kernel
theorem d_Mod_where_1 : decode b_Mod_where 1 = .ok (.iload_n 1, 1) := by decide +kernel
theorem d_Mod_where_2 : decode b_Mod_where 2 = .ok (.invokevirtual 163, 3) := by decide +kernel
theorem d_Mod_where_5 : decode b_Mod_where 5 = .ok (.ifCond .eq 11, 3) := by decide +kernel
theorem d_Mod_where_8 : decode b_Mod_where 8 = .ok (.aload_n 0, 1) := by decide +kernel
theorem d_Mod_where_9 : decode b_Mod_where 9 = .ok (.iload_n 1, 1) := by decide +kernel
theorem d_Mod_where_10 : decode b_Mod_where 10 = .ok (.invokevirtual 184, 3) := by decide +kernel
theorem d_Mod_where_13 : decode b_Mod_where 13 = .ok (.goto 8, 3) := by decide +kernel
theorem d_Mod_where_16 : decode b_Mod_where 16 = .ok (.aload_n 0, 1) := by decide +kernel
theorem d_Mod_where_17 : decode b_Mod_where 17 = .ok (.iconst (-1), 1) := by decide +kernel
theorem d_Mod_where_18 : decode b_Mod_where 18 = .ok (.invokevirtual 54, 3) := by decide +kernel
theorem d_Mod_where_21 : decode b_Mod_where 21 = .ok (.ireturn, 1) := by decide +kernel
theorem d_Mod_together_0 : decode b_Mod_together 0 = .ok (.aload_n 0, 1) := by decide +kernel
theorem d_Mod_together_1 : decode b_Mod_together 1 = .ok (.iload_n 1, 1) := by decide +kernel
theorem d_Mod_together_2 : decode b_Mod_together 2 = .ok (.invokevirtual 163, 3) := by decide +kernel
theorem d_Mod_together_5 : decode b_Mod_together 5 = .ok (.ifCond .ne 9, 3) := by decide +kernel
theorem d_Mod_together_8 : decode b_Mod_together 8 = .ok (.aload_n 0, 1) := by decide +kernel
theorem d_Mod_together_9 : decode b_Mod_together 9 = .ok (.iconst (-1), 1) := by decide +kernel
theorem d_Mod_together_10 : decode b_Mod_together 10 = .ok (.invokevirtual 54, 3) := by decide +kernel
theorem d_Mod_together_13 : decode b_Mod_together 13 = .ok (.ireturn, 1) := by decide +kernel
theorem d_Mod_together_14 : decode b_Mod_together 14 = .ok (.aload_n 0, 1) := by decide +kernel
theorem d_Mod_together_15 : decode b_Mod_together 15 = .ok (.iload_n 1, 1) := by decide +kernel
theorem d_Mod_together_16 : decode b_Mod_together 16 = .ok (.invokevirtual 184, 3) := by decide +kernel
theorem d_Mod_together_19 : decode b_Mod_together 19 = .ok (.istore_n 2, 1) := by decide +kernel
theorem d_Mod_together_20 : decode b_Mod_together 20 = .ok (.iconst 0, 1) := by decide +kernel
theorem d_Mod_together_21 : decode b_Mod_together 21 = .ok (.istore_n 3, 1) := by decide +kernel
theorem d_Mod_together_22 : decode b_Mod_together 22 = .ok (.iconst 0, 1) := by decide +kernel
theorem d_Mod_together_23 : decode b_Mod_together 23 = .ok (.istore 4, 2) := by decide +kernel
theorem d_Mod_together_25 : decode b_Mod_together 25 = .ok (.iload 4, 2) := by decide +kernel
theorem d_Mod_together_27 : decode b_Mod_together 27 = .ok (.aload_n 0, 1) := by decide +kernel
theorem d_Mod_together_28 : decode b_Mod_together 28 = .ok (.getfield 66, 3) := by decide +kernel
theorem d_Mod_together_31 : decode b_Mod_together 31 = .ok (.if_icmp .ge 32, 3) := by decide +kernel
theorem d_Mod_together_34 : decode b_Mod_together 34 = .ok (.iload_n 2, 1) := by decide +kernel
theorem d_Mod_together_35 : decode b_Mod_together 35 = .ok (.bipush (-9), 2) := by decide +kernel
theorem d_Mod_together_37 : decode b_Mod_together 37 = .ok (.if_icmp .eq 26, 3) := by decide +kernel
theorem d_Mod_together_40 : decode b_Mod_together 40 = .ok (.aload_n 0, 1) := by decide +kernel
theorem d_Mod_together_41 : decode b_Mod_together 41 = .ok (.iload 4, 2) := by decide +kernel
theorem d_Mod_together_43 : decode b_Mod_together 43 = .ok (.invokevirtual 184, 3) := by decide +kernel
theorem d_Mod_together_46 : decode b_Mod_together 46 = .ok (.iload_n 2, 1) := by decide +kernel
theorem d_Mod_together_47 : decode b_Mod_together 47 = .ok (.if_icmp .ne 10, 3) := by decide +kernel
theorem d_Mod_together_50 : decode b_Mod_together 50 = .ok (.iload_n 3, 1) := by decide +kernel
theorem d_Mod_together_51 : decode b_Mod_together 51 = .ok (.iconst 1, 1) := by decide +kernel
theorem d_Mod_together_52 : decode b_Mod_together 52 = .ok (.iload 4, 2) := by decide +kernel
theorem d_Mod_together_54 : decode b_Mod_together 54 = .ok (.ishl, 1) := by decide +kernel
theorem d_Mod_together_55 : decode b_Mod_together 55 = .ok (.ior, 1) := by decide +kernel
theorem d_Mod_together_56 : decode b_Mod_together 56 = .ok (.istore_n 3, 1) := by decide +kernel
theorem d_Mod_together_57 : decode b_Mod_together 57 = .ok (.iinc 4 1, 3) := by decide +kernel
theorem d_Mod_together_60 : decode b_Mod_together 60 = .ok (.goto (-35), 3) := by decide +kernel
theorem d_Mod_together_63 : decode b_Mod_together 63 = .ok (.iload_n 3, 1) := by decide +kernel
theorem d_Mod_together_64 : decode b_Mod_together 64 = .ok (.ireturn, 1) := by decide +kernel
theorem d_Mod_steps_0 : decode b_Mod_steps 0 = .ok (.aload_n 0, 1) := by decide +kernel
theorem d_Mod_steps_1 : decode b_Mod_steps 1 = .ok (.iload_n 1, 1) := by decide +kernel
theorem d_Mod_steps_2 : decode b_Mod_steps 2 = .ok (.invokevirtual 163, 3) := by decide +kernel
theorem d_Mod_steps_5 : decode b_Mod_steps 5 = .ok (.ifCond .eq 11, 3) := by decide +kernel
theorem d_Mod_steps_8 : decode b_Mod_steps 8 = .ok (.aload_n 0, 1) := by decide +kernel
theorem d_Mod_steps_9 : decode b_Mod_steps 9 = .ok (.iload_n 2, 1) := by decide +kernel
theorem d_Mod_steps_10 : decode b_Mod_steps 10 = .ok (.invokevirtual 163, 3) := by decide +kernel
theorem d_Mod_steps_13 : decode b_Mod_steps 13 = .ok (.ifCond .ne 9, 3) := by decide +kernel
theorem d_Mod_steps_16 : decode b_Mod_steps 16 = .ok (.aload_n 0, 1) := by decide +kernel
theorem d_Mod_steps_17 : decode b_Mod_steps 17 = .ok (.iconst (-1), 1) := by decide +kernel
theorem d_Mod_steps_18 : decode b_Mod_steps 18 = .ok (.invokevirtual 54, 3) := by decide +kernel
theorem d_Mod_steps_21 : decode b_Mod_steps 21 = .ok (.ireturn, 1) := by decide +kernel
theorem d_Mod_steps_22 : decode b_Mod_steps 22 = .ok (.aload_n 0, 1) := by decide +kernel
theorem d_Mod_steps_23 : decode b_Mod_steps 23 = .ok (.iload_n 1, 1) := by decide +kernel
theorem d_Mod_steps_24 : decode b_Mod_steps 24 = .ok (.invokevirtual 184, 3) := by decide +kernel
theorem d_Mod_steps_27 : decode b_Mod_steps 27 = .ok (.istore_n 3, 1) := by decide +kernel
theorem d_Mod_steps_28 : decode b_Mod_steps 28 = .ok (.aload_n 0, 1) := by decide +kernel
theorem d_Mod_steps_29 : decode b_Mod_steps 29 = .ok (.iload_n 2, 1) := by decide +kernel
theorem d_Mod_steps_30 : decode b_Mod_steps 30 = .ok (.invokevirtual 184, 3) := by decide +kernel
theorem d_Mod_steps_33 : decode b_Mod_steps 33 = .ok (.istore 4, 2) := by decide +kernel
theorem d_Mod_steps_35 : decode b_Mod_steps 35 = .ok (.iload_n 3, 1) := by decide +kernel
theorem d_Mod_steps_36 : decode b_Mod_steps 36 = .ok (.bipush (-9), 2) := by decide +kernel
theorem d_Mod_steps_38 : decode b_Mod_steps 38 = .ok (.if_icmp .eq 10, 3) := by decide +kernel
theorem d_Mod_steps_41 : decode b_Mod_steps 41 = .ok (.iload 4, 2) := by decide +kernel
theorem d_Mod_steps_43 : decode b_Mod_steps 43 = .ok (.bipush (-9), 2) := by decide +kernel
theorem d_Mod_steps_45 : decode b_Mod_steps 45 = .ok (.if_icmp .ne 8, 3) := by decide +kernel
theorem d_Mod_steps_48 : decode b_Mod_steps 48 = .ok (.bipush (-9), 2) := by decide +kernel
theorem d_Mod_steps_50 : decode b_Mod_steps 50 = .ok (.goto 10, 3) := by decide +kernel
theorem d_Mod_steps_53 : decode b_Mod_steps 53 = .ok (.iload_n 3, 1) := by decide +kernel
theorem d_Mod_steps_54 : decode b_Mod_steps 54 = .ok (.iload 4, 2) := by decide +kernel
theorem d_Mod_steps_56 : decode b_Mod_steps 56 = .ok (.ixor, 1) := by decide +kernel
theorem d_Mod_steps_57 : decode b_Mod_steps 57 = .ok (.invokestatic 129, 3) := by decide +kernel
theorem d_Mod_steps_60 : decode b_Mod_steps 60 = .ok (.ireturn, 1) := by decide +kernel
theorem d_Mod_think_0 : decode b_Mod_think 0 = .ok (.aload_n 0, 1) := by decide +kernel
theorem d_Mod_think_1 : decode b_Mod_think 1 = .ok (.getfield 13, 3) := by decide +kernel
theorem d_Mod_think_4 : decode b_Mod_think 4 = .ok (.aload_n 0, 1) := by decide +kernel
theorem d_Mod_think_5 : decode b_Mod_think 5 = .ok (.getfield 58, 3) := by decide +kernel
theorem d_Mod_think_8 : decode b_Mod_think 8 = .ok (.iload_n 1, 1) := by decide +kernel
theorem d_Mod_think_9 : decode b_Mod_think 9 = .ok (.iastore, 1) := by decide +kernel
theorem d_Mod_think_10 : decode b_Mod_think 10 = .ok (.aload_n 0, 1) := by decide +kernel
theorem d_Mod_think_11 : decode b_Mod_think 11 = .ok (.getfield 16, 3) := by decide +kernel
theorem d_Mod_think_14 : decode b_Mod_think 14 = .ok (.aload_n 0, 1) := by decide +kernel
theorem d_Mod_think_15 : decode b_Mod_think 15 = .ok (.getfield 58, 3) := by decide +kernel
theorem d_Mod_think_18 : decode b_Mod_think 18 = .ok (.iload_n 2, 1) := by decide +kernel
theorem d_Mod_think_19 : decode b_Mod_think 19 = .ok (.iastore, 1) := by decide +kernel
theorem d_Mod_think_20 : decode b_Mod_think 20 = .ok (.aload_n 0, 1) := by decide +kernel
theorem d_Mod_think_21 : decode b_Mod_think 21 = .ok (.getfield 19, 3) := by decide +kernel
theorem d_Mod_think_24 : decode b_Mod_think 24 = .ok (.aload_n 0, 1) := by decide +kernel
theorem d_Mod_think_25 : decode b_Mod_think 25 = .ok (.getfield 58, 3) := by decide +kernel
theorem d_Mod_think_28 : decode b_Mod_think 28 = .ok (.iload_n 3, 1) := by decide +kernel
theorem d_Mod_think_29 : decode b_Mod_think 29 = .ok (.iastore, 1) := by decide +kernel
theorem d_Mod_think_30 : decode b_Mod_think 30 = .ok (.return_, 1) := by decide +kernel
theorem d_Mod_cuts_0 : decode b_Mod_cuts 0 = .ok (.aload_n 0, 1) := by decide +kernel
theorem d_Mod_cuts_1 : decode b_Mod_cuts 1 = .ok (.getfield 46, 3) := by decide +kernel
theorem d_Mod_cuts_4 : decode b_Mod_cuts 4 = .ok (.iload_n 1, 1) := by decide +kernel
theorem d_Mod_cuts_5 : decode b_Mod_cuts 5 = .ok (.iaload, 1) := by decide +kernel
theorem d_Mod_cuts_6 : decode b_Mod_cuts 6 = .ok (.ifCond .le 23, 3) := by decide +kernel
theorem d_Mod_cuts_9 : decode b_Mod_cuts 9 = .ok (.aload_n 0, 1) := by decide +kernel
theorem d_Mod_cuts_10 : decode b_Mod_cuts 10 = .ok (.getfield 46, 3) := by decide +kernel
theorem d_Mod_cuts_13 : decode b_Mod_cuts 13 = .ok (.iload_n 1, 1) := by decide +kernel
theorem d_Mod_cuts_14 : decode b_Mod_cuts 14 = .ok (.iconst 1, 1) := by decide +kernel
theorem d_Mod_cuts_15 : decode b_Mod_cuts 15 = .ok (.aload_n 0, 1) := by decide +kernel
theorem d_Mod_cuts_16 : decode b_Mod_cuts 16 = .ok (.getfield 58, 3) := by decide +kernel
theorem d_Mod_cuts_19 : decode b_Mod_cuts 19 = .ok (.ishl, 1) := by decide +kernel
theorem d_Mod_cuts_20 : decode b_Mod_cuts 20 = .ok (.ior, 1) := by decide +kernel
theorem d_Mod_cuts_21 : decode b_Mod_cuts 21 = .ok (.iaload, 1) := by decide +kernel
theorem d_Mod_cuts_22 : decode b_Mod_cuts 22 = .ok (.ifCond .le 7, 3) := by decide +kernel
theorem d_Mod_cuts_25 : decode b_Mod_cuts 25 = .ok (.iconst 1, 1) := by decide +kernel
theorem d_Mod_cuts_26 : decode b_Mod_cuts 26 = .ok (.goto 4, 3) := by decide +kernel
theorem d_Mod_cuts_29 : decode b_Mod_cuts 29 = .ok (.iconst 0, 1) := by decide +kernel
theorem d_Mod_cuts_30 : decode b_Mod_cuts 30 = .ok (.ireturn, 1) := by decide +kernel
theorem d_Mod_next_0 : decode b_Mod_next 0 = .ok (.iload 4, 2) := by decide +kernel
theorem d_Mod_next_2 : decode b_Mod_next 2 = .ok (.iconst (-1), 1) := by decide +kernel
theorem d_Mod_next_3 : decode b_Mod_next 3 = .ok (.if_icmp .eq 18, 3) := by decide +kernel
theorem d_Mod_next_6 : decode b_Mod_next 6 = .ok (.aload_n 0, 1) := by decide +kernel
theorem d_Mod_next_7 : decode b_Mod_next 7 = .ok (.iload 4, 2) := by decide +kernel
theorem d_Mod_next_9 : decode b_Mod_next 9 = .ok (.invokevirtual 163, 3) := by decide +kernel
theorem d_Mod_next_12 : decode b_Mod_next 12 = .ok (.ifCond .ne 9, 3) := by decide +kernel
theorem d_Mod_next_15 : decode b_Mod_next 15 = .ok (.aload_n 0, 1) := by decide +kernel
theorem d_Mod_next_16 : decode b_Mod_next 16 = .ok (.iconst (-1), 1) := by decide +kernel
theorem d_Mod_next_17 : decode b_Mod_next 17 = .ok (.invokevirtual 54, 3) := by decide +kernel
theorem d_Mod_next_20 : decode b_Mod_next 20 = .ok (.ireturn, 1) := by decide +kernel
theorem d_Mod_next_21 : decode b_Mod_next 21 = .ok (.iload_n 1, 1) := by decide +kernel
theorem d_Mod_next_22 : decode b_Mod_next 22 = .ok (.bipush (-9), 2) := by decide +kernel
theorem d_Mod_next_24 : decode b_Mod_next 24 = .ok (.if_icmp .lt 15, 3) := by decide +kernel
theorem d_Mod_next_27 : decode b_Mod_next 27 = .ok (.iload_n 2, 1) := by decide +kernel
theorem d_Mod_next_28 : decode b_Mod_next 28 = .ok (.bipush (-9), 2) := by decide +kernel
theorem d_Mod_next_30 : decode b_Mod_next 30 = .ok (.if_icmp .lt 9, 3) := by decide +kernel
theorem d_Mod_next_33 : decode b_Mod_next 33 = .ok (.iload_n 3, 1) := by decide +kernel
theorem d_Mod_next_34 : decode b_Mod_next 34 = .ok (.bipush (-99), 2) := by decide +kernel
theorem d_Mod_next_36 : decode b_Mod_next 36 = .ok (.if_icmp .ge 10, 3) := by decide +kernel
theorem d_Mod_next_39 : decode b_Mod_next 39 = .ok (.aload_n 0, 1) := by decide +kernel
theorem d_Mod_next_40 : decode b_Mod_next 40 = .ok (.bipush (-4), 2) := by decide +kernel
theorem d_Mod_next_42 : decode b_Mod_next 42 = .ok (.invokevirtual 54, 3) := by decide +kernel
theorem d_Mod_next_45 : decode b_Mod_next 45 = .ok (.ireturn, 1) := by decide +kernel
theorem d_Mod_next_46 : decode b_Mod_next 46 = .ok (.iload_n 1, 1) := by decide +kernel
theorem d_Mod_next_47 : decode b_Mod_next 47 = .ok (.bipush 9, 2) := by decide +kernel
theorem d_Mod_next_49 : decode b_Mod_next 49 = .ok (.if_icmp .gt 15, 3) := by decide +kernel
theorem d_Mod_next_52 : decode b_Mod_next 52 = .ok (.iload_n 2, 1) := by decide +kernel
theorem d_Mod_next_53 : decode b_Mod_next 53 = .ok (.bipush 9, 2) := by decide +kernel
theorem d_Mod_next_55 : decode b_Mod_next 55 = .ok (.if_icmp .gt 9, 3) := by decide +kernel
theorem d_Mod_next_58 : decode b_Mod_next 58 = .ok (.iload_n 3, 1) := by decide +kernel
theorem d_Mod_next_59 : decode b_Mod_next 59 = .ok (.bipush 99, 2) := by decide +kernel
theorem d_Mod_next_61 : decode b_Mod_next 61 = .ok (.if_icmp .le 10, 3) := by decide +kernel
theorem d_Mod_next_64 : decode b_Mod_next 64 = .ok (.aload_n 0, 1) := by decide +kernel
theorem d_Mod_next_65 : decode b_Mod_next 65 = .ok (.bipush (-6), 2) := by decide +kernel
theorem d_Mod_next_67 : decode b_Mod_next 67 = .ok (.invokevirtual 54, 3) := by decide +kernel
theorem d_Mod_next_70 : decode b_Mod_next 70 = .ok (.ireturn, 1) := by decide +kernel
theorem d_Mod_next_71 : decode b_Mod_next 71 = .ok (.iload_n 1, 1) := by decide +kernel
theorem d_Mod_next_72 : decode b_Mod_next 72 = .ok (.ifCond .ne 7, 3) := by decide +kernel
theorem d_Mod_next_75 : decode b_Mod_next 75 = .ok (.iload_n 2, 1) := by decide +kernel
theorem d_Mod_next_76 : decode b_Mod_next 76 = .ok (.ifCond .eq 16, 3) := by decide +kernel
theorem d_Mod_next_79 : decode b_Mod_next 79 = .ok (.aload_n 0, 1) := by decide +kernel
theorem d_Mod_next_80 : decode b_Mod_next 80 = .ok (.iload_n 1, 1) := by decide +kernel
theorem d_Mod_next_81 : decode b_Mod_next 81 = .ok (.iload_n 2, 1) := by decide +kernel
theorem d_Mod_next_82 : decode b_Mod_next 82 = .ok (.aload_n 0, 1) := by decide +kernel
theorem d_Mod_next_83 : decode b_Mod_next 83 = .ok (.getfield 58, 3) := by decide +kernel
theorem d_Mod_next_86 : decode b_Mod_next 86 = .ok (.invokevirtual 94, 3) := by decide +kernel
theorem d_Mod_next_89 : decode b_Mod_next 89 = .ok (.ifCond .eq 10, 3) := by decide +kernel
theorem d_Mod_next_92 : decode b_Mod_next 92 = .ok (.aload_n 0, 1) := by decide +kernel
theorem d_Mod_next_93 : decode b_Mod_next 93 = .ok (.bipush (-3), 2) := by decide +kernel
theorem d_Mod_next_95 : decode b_Mod_next 95 = .ok (.invokevirtual 54, 3) := by decide +kernel
theorem d_Mod_next_98 : decode b_Mod_next 98 = .ok (.ireturn, 1) := by decide +kernel
theorem d_Mod_next_99 : decode b_Mod_next 99 = .ok (.aload_n 0, 1) := by decide +kernel
theorem d_Mod_next_100 : decode b_Mod_next 100 = .ok (.iload_n 1, 1) := by decide +kernel
theorem d_Mod_next_101 : decode b_Mod_next 101 = .ok (.iload_n 2, 1) := by decide +kernel
theorem d_Mod_next_102 : decode b_Mod_next 102 = .ok (.iload_n 3, 1) := by decide +kernel
theorem d_Mod_next_103 : decode b_Mod_next 103 = .ok (.invokevirtual 187, 3) := by decide +kernel
theorem d_Mod_next_106 : decode b_Mod_next 106 = .ok (.aload_n 0, 1) := by decide +kernel
theorem d_Mod_next_107 : decode b_Mod_next 107 = .ok (.aload_n 0, 1) := by decide +kernel
theorem d_Mod_next_108 : decode b_Mod_next 108 = .ok (.getfield 58, 3) := by decide +kernel
theorem d_Mod_next_111 : decode b_Mod_next 111 = .ok (.iconst 1, 1) := by decide +kernel
theorem d_Mod_next_112 : decode b_Mod_next 112 = .ok (.iadd, 1) := by decide +kernel
theorem d_Mod_next_113 : decode b_Mod_next 113 = .ok (.invokevirtual 146, 3) := by decide +kernel
theorem d_Mod_next_116 : decode b_Mod_next 116 = .ok (.iload 4, 2) := by decide +kernel
theorem d_Mod_next_118 : decode b_Mod_next 118 = .ok (.iconst (-1), 1) := by decide +kernel
theorem d_Mod_next_119 : decode b_Mod_next 119 = .ok (.if_icmp .ne 41, 3) := by decide +kernel
theorem d_Mod_next_122 : decode b_Mod_next 122 = .ok (.iconst 0, 1) := by decide +kernel
theorem d_Mod_next_123 : decode b_Mod_next 123 = .ok (.istore 5, 2) := by decide +kernel
theorem d_Mod_next_125 : decode b_Mod_next 125 = .ok (.iconst 0, 1) := by decide +kernel
theorem d_Mod_next_126 : decode b_Mod_next 126 = .ok (.istore 6, 2) := by decide +kernel
theorem d_Mod_next_128 : decode b_Mod_next 128 = .ok (.iload 6, 2) := by decide +kernel
theorem d_Mod_next_130 : decode b_Mod_next 130 = .ok (.iconst 1, 1) := by decide +kernel
theorem d_Mod_next_131 : decode b_Mod_next 131 = .ok (.aload_n 0, 1) := by decide +kernel
theorem d_Mod_next_132 : decode b_Mod_next 132 = .ok (.getfield 58, 3) := by decide +kernel
theorem d_Mod_next_135 : decode b_Mod_next 135 = .ok (.ishl, 1) := by decide +kernel
theorem d_Mod_next_136 : decode b_Mod_next 136 = .ok (.if_icmp .ge 21, 3) := by decide +kernel
theorem d_Mod_next_139 : decode b_Mod_next 139 = .ok (.aload_n 0, 1) := by decide +kernel
theorem d_Mod_next_140 : decode b_Mod_next 140 = .ok (.iload 6, 2) := by decide +kernel
theorem d_Mod_next_142 : decode b_Mod_next 142 = .ok (.invokevirtual 191, 3) := by decide +kernel
theorem d_Mod_next_145 : decode b_Mod_next 145 = .ok (.ifCond .eq 6, 3) := by decide +kernel
theorem d_Mod_next_148 : decode b_Mod_next 148 = .ok (.iinc 5 1, 3) := by decide +kernel
theorem d_Mod_next_151 : decode b_Mod_next 151 = .ok (.iinc 6 1, 3) := by decide +kernel
theorem d_Mod_next_154 : decode b_Mod_next 154 = .ok (.goto (-26), 3) := by decide +kernel
theorem d_Mod_next_157 : decode b_Mod_next 157 = .ok (.iload 5, 2) := by decide +kernel
theorem d_Mod_next_159 : decode b_Mod_next 159 = .ok (.ireturn, 1) := by decide +kernel
theorem d_Mod_next_160 : decode b_Mod_next 160 = .ok (.aload_n 0, 1) := by decide +kernel
theorem d_Mod_next_161 : decode b_Mod_next 161 = .ok (.iload 4, 2) := by decide +kernel
theorem d_Mod_next_163 : decode b_Mod_next 163 = .ok (.invokevirtual 184, 3) := by decide +kernel
theorem d_Mod_next_166 : decode b_Mod_next 166 = .ok (.istore 5, 2) := by decide +kernel
theorem d_Mod_next_168 : decode b_Mod_next 168 = .ok (.iload 5, 2) := by decide +kernel
theorem d_Mod_next_170 : decode b_Mod_next 170 = .ok (.bipush (-9), 2) := by decide +kernel
theorem d_Mod_next_172 : decode b_Mod_next 172 = .ok (.if_icmp .ne 8, 3) := by decide +kernel
theorem d_Mod_next_175 : decode b_Mod_next 175 = .ok (.bipush (-9), 2) := by decide +kernel
theorem d_Mod_next_177 : decode b_Mod_next 177 = .ok (.goto 17, 3) := by decide +kernel
theorem d_Mod_next_180 : decode b_Mod_next 180 = .ok (.aload_n 0, 1) := by decide +kernel
theorem d_Mod_next_181 : decode b_Mod_next 181 = .ok (.iload 5, 2) := by decide +kernel
theorem d_Mod_next_183 : decode b_Mod_next 183 = .ok (.invokevirtual 191, 3) := by decide +kernel
theorem d_Mod_next_186 : decode b_Mod_next 186 = .ok (.ifCond .eq 7, 3) := by decide +kernel
theorem d_Mod_next_189 : decode b_Mod_next 189 = .ok (.iconst 1, 1) := by decide +kernel
theorem d_Mod_next_190 : decode b_Mod_next 190 = .ok (.goto 4, 3) := by decide +kernel
theorem d_Mod_next_193 : decode b_Mod_next 193 = .ok (.iconst 0, 1) := by decide +kernel
theorem d_Mod_next_194 : decode b_Mod_next 194 = .ok (.ireturn, 1) := by decide +kernel
theorem d_Mod_through_0 : decode b_Mod_through 0 = .ok (.aload_n 0, 1) := by decide +kernel
theorem d_Mod_through_1 : decode b_Mod_through 1 = .ok (.iload_n 3, 1) := by decide +kernel
theorem d_Mod_through_2 : decode b_Mod_through 2 = .ok (.invokevirtual 163, 3) := by decide +kernel
theorem d_Mod_through_5 : decode b_Mod_through 5 = .ok (.ifCond .ne 9, 3) := by decide +kernel
theorem d_Mod_through_8 : decode b_Mod_through 8 = .ok (.aload_n 0, 1) := by decide +kernel
theorem d_Mod_through_9 : decode b_Mod_through 9 = .ok (.iconst (-1), 1) := by decide +kernel
theorem d_Mod_through_10 : decode b_Mod_through 10 = .ok (.invokevirtual 157, 3) := by decide +kernel
theorem d_Mod_through_13 : decode b_Mod_through 13 = .ok (.ireturn, 1) := by decide +kernel
theorem d_Mod_through_14 : decode b_Mod_through 14 = .ok (.iload_n 1, 1) := by decide +kernel
theorem d_Mod_through_15 : decode b_Mod_through 15 = .ok (.bipush (-9), 2) := by decide +kernel
theorem d_Mod_through_17 : decode b_Mod_through 17 = .ok (.if_icmp .lt 9, 3) := by decide +kernel
theorem d_Mod_through_20 : decode b_Mod_through 20 = .ok (.iload_n 2, 1) := by decide +kernel
theorem d_Mod_through_21 : decode b_Mod_through 21 = .ok (.bipush (-9), 2) := by decide +kernel
theorem d_Mod_through_23 : decode b_Mod_through 23 = .ok (.if_icmp .ge 10, 3) := by decide +kernel
theorem d_Mod_through_26 : decode b_Mod_through 26 = .ok (.aload_n 0, 1) := by decide +kernel
theorem d_Mod_through_27 : decode b_Mod_through 27 = .ok (.bipush (-4), 2) := by decide +kernel
theorem d_Mod_through_29 : decode b_Mod_through 29 = .ok (.invokevirtual 157, 3) := by decide +kernel
theorem d_Mod_through_32 : decode b_Mod_through 32 = .ok (.ireturn, 1) := by decide +kernel
theorem d_Mod_through_33 : decode b_Mod_through 33 = .ok (.iload_n 1, 1) := by decide +kernel
theorem d_Mod_through_34 : decode b_Mod_through 34 = .ok (.bipush 9, 2) := by decide +kernel
theorem d_Mod_through_36 : decode b_Mod_through 36 = .ok (.if_icmp .gt 9, 3) := by decide +kernel
theorem d_Mod_through_39 : decode b_Mod_through 39 = .ok (.iload_n 2, 1) := by decide +kernel
theorem d_Mod_through_40 : decode b_Mod_through 40 = .ok (.bipush 9, 2) := by decide +kernel
theorem d_Mod_through_42 : decode b_Mod_through 42 = .ok (.if_icmp .le 10, 3) := by decide +kernel
theorem d_Mod_through_45 : decode b_Mod_through 45 = .ok (.aload_n 0, 1) := by decide +kernel
theorem d_Mod_through_46 : decode b_Mod_through 46 = .ok (.bipush (-6), 2) := by decide +kernel
theorem d_Mod_through_48 : decode b_Mod_through 48 = .ok (.invokevirtual 157, 3) := by decide +kernel
theorem d_Mod_through_51 : decode b_Mod_through 51 = .ok (.ireturn, 1) := by decide +kernel
theorem d_Mod_through_52 : decode b_Mod_through 52 = .ok (.iload_n 1, 1) := by decide +kernel
theorem d_Mod_through_53 : decode b_Mod_through 53 = .ok (.ifCond .ne 16, 3) := by decide +kernel
theorem d_Mod_through_56 : decode b_Mod_through 56 = .ok (.iload_n 2, 1) := by decide +kernel
theorem d_Mod_through_57 : decode b_Mod_through 57 = .ok (.ifCond .ne 12, 3) := by decide +kernel
theorem d_Mod_through_60 : decode b_Mod_through 60 = .ok (.aload_n 0, 1) := by decide +kernel
theorem d_Mod_through_61 : decode b_Mod_through 61 = .ok (.bipush (-3), 2) := by decide +kernel
theorem d_Mod_through_63 : decode b_Mod_through 63 = .ok (.invokevirtual 157, 3) := by decide +kernel
theorem d_Mod_through_66 : decode b_Mod_through 66 = .ok (.goto 20, 3) := by decide +kernel
theorem d_Mod_through_69 : decode b_Mod_through 69 = .ok (.iload_n 1, 1) := by decide +kernel
theorem d_Mod_through_70 : decode b_Mod_through 70 = .ok (.aload_n 0, 1) := by decide +kernel
theorem d_Mod_through_71 : decode b_Mod_through 71 = .ok (.getfield 22, 3) := by decide +kernel
theorem d_Mod_through_74 : decode b_Mod_through 74 = .ok (.iload_n 3, 1) := by decide +kernel
theorem d_Mod_through_75 : decode b_Mod_through 75 = .ok (.iaload, 1) := by decide +kernel
theorem d_Mod_through_76 : decode b_Mod_through 76 = .ok (.imul, 1) := by decide +kernel
theorem d_Mod_through_77 : decode b_Mod_through 77 = .ok (.iload_n 2, 1) := by decide +kernel
theorem d_Mod_through_78 : decode b_Mod_through 78 = .ok (.aload_n 0, 1) := by decide +kernel
theorem d_Mod_through_79 : decode b_Mod_through 79 = .ok (.getfield 25, 3) := by decide +kernel
theorem d_Mod_through_82 : decode b_Mod_through 82 = .ok (.iload_n 3, 1) := by decide +kernel
theorem d_Mod_through_83 : decode b_Mod_through 83 = .ok (.iaload, 1) := by decide +kernel
theorem d_Mod_through_84 : decode b_Mod_through 84 = .ok (.imul, 1) := by decide +kernel
theorem d_Mod_through_85 : decode b_Mod_through 85 = .ok (.iadd, 1) := by decide +kernel
theorem d_Mod_through_86 : decode b_Mod_through 86 = .ok (.ireturn, 1) := by decide +kernel
theorem d_Mod_spare_0 : decode b_Mod_spare 0 = .ok (.iload_n 1, 1) := by decide +kernel
theorem d_Mod_spare_1 : decode b_Mod_spare 1 = .ok (.bipush (-9), 2) := by decide +kernel
theorem d_Mod_spare_3 : decode b_Mod_spare 3 = .ok (.if_icmp .lt 9, 3) := by decide +kernel
theorem d_Mod_spare_6 : decode b_Mod_spare 6 = .ok (.iload_n 2, 1) := by decide +kernel
theorem d_Mod_spare_7 : decode b_Mod_spare 7 = .ok (.bipush (-9), 2) := by decide +kernel
theorem d_Mod_spare_9 : decode b_Mod_spare 9 = .ok (.if_icmp .ge 10, 3) := by decide +kernel
theorem d_Mod_spare_12 : decode b_Mod_spare 12 = .ok (.aload_n 0, 1) := by decide +kernel
theorem d_Mod_spare_13 : decode b_Mod_spare 13 = .ok (.bipush (-4), 2) := by decide +kernel
theorem d_Mod_spare_15 : decode b_Mod_spare 15 = .ok (.invokevirtual 157, 3) := by decide +kernel
theorem d_Mod_spare_18 : decode b_Mod_spare 18 = .ok (.ireturn, 1) := by decide +kernel
theorem d_Mod_spare_19 : decode b_Mod_spare 19 = .ok (.iload_n 1, 1) := by decide +kernel
theorem d_Mod_spare_20 : decode b_Mod_spare 20 = .ok (.bipush 9, 2) := by decide +kernel
theorem d_Mod_spare_22 : decode b_Mod_spare 22 = .ok (.if_icmp .gt 9, 3) := by decide +kernel
theorem d_Mod_spare_25 : decode b_Mod_spare 25 = .ok (.iload_n 2, 1) := by decide +kernel
theorem d_Mod_spare_26 : decode b_Mod_spare 26 = .ok (.bipush 9, 2) := by decide +kernel
theorem d_Mod_spare_28 : decode b_Mod_spare 28 = .ok (.if_icmp .le 10, 3) := by decide +kernel
theorem d_Mod_spare_31 : decode b_Mod_spare 31 = .ok (.aload_n 0, 1) := by decide +kernel
theorem d_Mod_spare_32 : decode b_Mod_spare 32 = .ok (.bipush (-6), 2) := by decide +kernel
theorem d_Mod_spare_34 : decode b_Mod_spare 34 = .ok (.invokevirtual 157, 3) := by decide +kernel
theorem d_Mod_spare_37 : decode b_Mod_spare 37 = .ok (.ireturn, 1) := by decide +kernel
theorem d_Mod_spare_38 : decode b_Mod_spare 38 = .ok (.iload_n 1, 1) := by decide +kernel
theorem d_Mod_spare_39 : decode b_Mod_spare 39 = .ok (.ifCond .ne 7, 3) := by decide +kernel
theorem d_Mod_spare_42 : decode b_Mod_spare 42 = .ok (.iload_n 2, 1) := by decide +kernel
theorem d_Mod_spare_43 : decode b_Mod_spare 43 = .ok (.ifCond .eq 16, 3) := by decide +kernel
theorem d_Mod_spare_46 : decode b_Mod_spare 46 = .ok (.aload_n 0, 1) := by decide +kernel
theorem d_Mod_spare_47 : decode b_Mod_spare 47 = .ok (.iload_n 1, 1) := by decide +kernel
theorem d_Mod_spare_48 : decode b_Mod_spare 48 = .ok (.iload_n 2, 1) := by decide +kernel
theorem d_Mod_spare_49 : decode b_Mod_spare 49 = .ok (.aload_n 0, 1) := by decide +kernel
theorem d_Mod_spare_50 : decode b_Mod_spare 50 = .ok (.getfield 58, 3) := by decide +kernel
theorem d_Mod_spare_53 : decode b_Mod_spare 53 = .ok (.invokevirtual 94, 3) := by decide +kernel
theorem d_Mod_spare_56 : decode b_Mod_spare 56 = .ok (.ifCond .eq 10, 3) := by decide +kernel
theorem d_Mod_spare_59 : decode b_Mod_spare 59 = .ok (.aload_n 0, 1) := by decide +kernel
theorem d_Mod_spare_60 : decode b_Mod_spare 60 = .ok (.bipush (-3), 2) := by decide +kernel
theorem d_Mod_spare_62 : decode b_Mod_spare 62 = .ok (.invokevirtual 157, 3) := by decide +kernel
theorem d_Mod_spare_65 : decode b_Mod_spare 65 = .ok (.ireturn, 1) := by decide +kernel
theorem d_Mod_spare_66 : decode b_Mod_spare 66 = .ok (.bipush (-99), 2) := by decide +kernel
theorem d_Mod_spare_68 : decode b_Mod_spare 68 = .ok (.istore_n 3, 1) := by decide +kernel
theorem d_Mod_spare_69 : decode b_Mod_spare 69 = .ok (.iload_n 3, 1) := by decide +kernel
theorem d_Mod_spare_70 : decode b_Mod_spare 70 = .ok (.bipush 100, 2) := by decide +kernel
theorem d_Mod_spare_72 : decode b_Mod_spare 72 = .ok (.if_icmp .ge 104, 3) := by decide +kernel
theorem d_Mod_spare_75 : decode b_Mod_spare 75 = .ok (.aload_n 0, 1) := by decide +kernel
theorem d_Mod_spare_76 : decode b_Mod_spare 76 = .ok (.iload_n 1, 1) := by decide +kernel
theorem d_Mod_spare_77 : decode b_Mod_spare 77 = .ok (.iload_n 2, 1) := by decide +kernel
theorem d_Mod_spare_78 : decode b_Mod_spare 78 = .ok (.iload_n 3, 1) := by decide +kernel
theorem d_Mod_spare_79 : decode b_Mod_spare 79 = .ok (.invokevirtual 187, 3) := by decide +kernel
theorem d_Mod_spare_82 : decode b_Mod_spare 82 = .ok (.aload_n 0, 1) := by decide +kernel
theorem d_Mod_spare_83 : decode b_Mod_spare 83 = .ok (.aload_n 0, 1) := by decide +kernel
theorem d_Mod_spare_84 : decode b_Mod_spare 84 = .ok (.getfield 58, 3) := by decide +kernel
theorem d_Mod_spare_87 : decode b_Mod_spare 87 = .ok (.iconst 1, 1) := by decide +kernel
theorem d_Mod_spare_88 : decode b_Mod_spare 88 = .ok (.iadd, 1) := by decide +kernel
theorem d_Mod_spare_89 : decode b_Mod_spare 89 = .ok (.invokevirtual 146, 3) := by decide +kernel
theorem d_Mod_spare_92 : decode b_Mod_spare 92 = .ok (.iconst 1, 1) := by decide +kernel
theorem d_Mod_spare_93 : decode b_Mod_spare 93 = .ok (.istore 4, 2) := by decide +kernel
theorem d_Mod_spare_95 : decode b_Mod_spare 95 = .ok (.iconst 0, 1) := by decide +kernel
theorem d_Mod_spare_96 : decode b_Mod_spare 96 = .ok (.istore 5, 2) := by decide +kernel
theorem d_Mod_spare_98 : decode b_Mod_spare 98 = .ok (.iload 5, 2) := by decide +kernel
theorem d_Mod_spare_100 : decode b_Mod_spare 100 = .ok (.aload_n 0, 1) := by decide +kernel
theorem d_Mod_spare_101 : decode b_Mod_spare 101 = .ok (.getfield 66, 3) := by decide +kernel
theorem d_Mod_spare_104 : decode b_Mod_spare 104 = .ok (.if_icmp .ge 59, 3) := by decide +kernel
theorem d_Mod_spare_107 : decode b_Mod_spare 107 = .ok (.aload_n 0, 1) := by decide +kernel
theorem d_Mod_spare_108 : decode b_Mod_spare 108 = .ok (.iload 5, 2) := by decide +kernel
theorem d_Mod_spare_110 : decode b_Mod_spare 110 = .ok (.invokevirtual 184, 3) := by decide +kernel
theorem d_Mod_spare_113 : decode b_Mod_spare 113 = .ok (.istore 6, 2) := by decide +kernel
theorem d_Mod_spare_115 : decode b_Mod_spare 115 = .ok (.iload_n 1, 1) := by decide +kernel
theorem d_Mod_spare_116 : decode b_Mod_spare 116 = .ok (.aload_n 0, 1) := by decide +kernel
theorem d_Mod_spare_117 : decode b_Mod_spare 117 = .ok (.getfield 22, 3) := by decide +kernel
theorem d_Mod_spare_120 : decode b_Mod_spare 120 = .ok (.iload 5, 2) := by decide +kernel
theorem d_Mod_spare_122 : decode b_Mod_spare 122 = .ok (.iaload, 1) := by decide +kernel
theorem d_Mod_spare_123 : decode b_Mod_spare 123 = .ok (.imul, 1) := by decide +kernel
theorem d_Mod_spare_124 : decode b_Mod_spare 124 = .ok (.iload_n 2, 1) := by decide +kernel
theorem d_Mod_spare_125 : decode b_Mod_spare 125 = .ok (.aload_n 0, 1) := by decide +kernel
theorem d_Mod_spare_126 : decode b_Mod_spare 126 = .ok (.getfield 25, 3) := by decide +kernel
theorem d_Mod_spare_129 : decode b_Mod_spare 129 = .ok (.iload 5, 2) := by decide +kernel
theorem d_Mod_spare_131 : decode b_Mod_spare 131 = .ok (.iaload, 1) := by decide +kernel
theorem d_Mod_spare_132 : decode b_Mod_spare 132 = .ok (.imul, 1) := by decide +kernel
theorem d_Mod_spare_133 : decode b_Mod_spare 133 = .ok (.iadd, 1) := by decide +kernel
theorem d_Mod_spare_134 : decode b_Mod_spare 134 = .ok (.iload_n 3, 1) := by decide +kernel
theorem d_Mod_spare_135 : decode b_Mod_spare 135 = .ok (.if_icmp .eq 19, 3) := by decide +kernel
theorem d_Mod_spare_138 : decode b_Mod_spare 138 = .ok (.iload 6, 2) := by decide +kernel
theorem d_Mod_spare_140 : decode b_Mod_spare 140 = .ok (.bipush (-9), 2) := by decide +kernel
theorem d_Mod_spare_142 : decode b_Mod_spare 142 = .ok (.if_icmp .eq 15, 3) := by decide +kernel
theorem d_Mod_spare_145 : decode b_Mod_spare 145 = .ok (.aload_n 0, 1) := by decide +kernel
theorem d_Mod_spare_146 : decode b_Mod_spare 146 = .ok (.iload 6, 2) := by decide +kernel
theorem d_Mod_spare_148 : decode b_Mod_spare 148 = .ok (.invokevirtual 191, 3) := by decide +kernel
theorem d_Mod_spare_151 : decode b_Mod_spare 151 = .ok (.ifCond .eq 6, 3) := by decide +kernel
theorem d_Mod_spare_154 : decode b_Mod_spare 154 = .ok (.iconst 0, 1) := by decide +kernel
theorem d_Mod_spare_155 : decode b_Mod_spare 155 = .ok (.istore 4, 2) := by decide +kernel
theorem d_Mod_spare_157 : decode b_Mod_spare 157 = .ok (.iinc 5 1, 3) := by decide +kernel
theorem d_Mod_spare_160 : decode b_Mod_spare 160 = .ok (.goto (-62), 3) := by decide +kernel
theorem d_Mod_spare_163 : decode b_Mod_spare 163 = .ok (.iload 4, 2) := by decide +kernel
theorem d_Mod_spare_165 : decode b_Mod_spare 165 = .ok (.ifCond .eq 5, 3) := by decide +kernel
theorem d_Mod_spare_168 : decode b_Mod_spare 168 = .ok (.iload_n 3, 1) := by decide +kernel
theorem d_Mod_spare_169 : decode b_Mod_spare 169 = .ok (.ireturn, 1) := by decide +kernel
theorem d_Mod_spare_170 : decode b_Mod_spare 170 = .ok (.iinc 3 1, 3) := by decide +kernel
theorem d_Mod_spare_173 : decode b_Mod_spare 173 = .ok (.goto (-104), 3) := by decide +kernel
theorem d_Mod_spare_176 : decode b_Mod_spare 176 = .ok (.sipush (-999), 3) := by decide +kernel
theorem d_Mod_spare_179 : decode b_Mod_spare 179 = .ok (.ireturn, 1) := by decide +kernel
theorem d_Mod_most_0 : decode b_Mod_most 0 = .ok (.iload_n 1, 1) := by decide +kernel
theorem d_Mod_most_1 : decode b_Mod_most 1 = .ok (.bipush (-9), 2) := by decide +kernel
theorem d_Mod_most_3 : decode b_Mod_most 3 = .ok (.if_icmp .lt 9, 3) := by decide +kernel
theorem d_Mod_most_6 : decode b_Mod_most 6 = .ok (.iload_n 2, 1) := by decide +kernel
theorem d_Mod_most_7 : decode b_Mod_most 7 = .ok (.bipush (-9), 2) := by decide +kernel
theorem d_Mod_most_9 : decode b_Mod_most 9 = .ok (.if_icmp .ge 10, 3) := by decide +kernel
theorem d_Mod_most_12 : decode b_Mod_most 12 = .ok (.aload_n 0, 1) := by decide +kernel
theorem d_Mod_most_13 : decode b_Mod_most 13 = .ok (.bipush (-4), 2) := by decide +kernel
theorem d_Mod_most_15 : decode b_Mod_most 15 = .ok (.invokevirtual 54, 3) := by decide +kernel
theorem d_Mod_most_18 : decode b_Mod_most 18 = .ok (.ireturn, 1) := by decide +kernel
theorem d_Mod_most_19 : decode b_Mod_most 19 = .ok (.iload_n 1, 1) := by decide +kernel
theorem d_Mod_most_20 : decode b_Mod_most 20 = .ok (.bipush 9, 2) := by decide +kernel
theorem d_Mod_most_22 : decode b_Mod_most 22 = .ok (.if_icmp .gt 9, 3) := by decide +kernel
theorem d_Mod_most_25 : decode b_Mod_most 25 = .ok (.iload_n 2, 1) := by decide +kernel
theorem d_Mod_most_26 : decode b_Mod_most 26 = .ok (.bipush 9, 2) := by decide +kernel
theorem d_Mod_most_28 : decode b_Mod_most 28 = .ok (.if_icmp .le 10, 3) := by decide +kernel
theorem d_Mod_most_31 : decode b_Mod_most 31 = .ok (.aload_n 0, 1) := by decide +kernel
theorem d_Mod_most_32 : decode b_Mod_most 32 = .ok (.bipush (-6), 2) := by decide +kernel
theorem d_Mod_most_34 : decode b_Mod_most 34 = .ok (.invokevirtual 54, 3) := by decide +kernel
theorem d_Mod_most_37 : decode b_Mod_most 37 = .ok (.ireturn, 1) := by decide +kernel
theorem d_Mod_most_38 : decode b_Mod_most 38 = .ok (.iload_n 1, 1) := by decide +kernel
theorem d_Mod_most_39 : decode b_Mod_most 39 = .ok (.ifCond .ne 7, 3) := by decide +kernel
theorem d_Mod_most_42 : decode b_Mod_most 42 = .ok (.iload_n 2, 1) := by decide +kernel
theorem d_Mod_most_43 : decode b_Mod_most 43 = .ok (.ifCond .eq 16, 3) := by decide +kernel
theorem d_Mod_most_46 : decode b_Mod_most 46 = .ok (.aload_n 0, 1) := by decide +kernel
theorem d_Mod_most_47 : decode b_Mod_most 47 = .ok (.iload_n 1, 1) := by decide +kernel
theorem d_Mod_most_48 : decode b_Mod_most 48 = .ok (.iload_n 2, 1) := by decide +kernel
theorem d_Mod_most_49 : decode b_Mod_most 49 = .ok (.aload_n 0, 1) := by decide +kernel
theorem d_Mod_most_50 : decode b_Mod_most 50 = .ok (.getfield 58, 3) := by decide +kernel
theorem d_Mod_most_53 : decode b_Mod_most 53 = .ok (.invokevirtual 94, 3) := by decide +kernel
theorem d_Mod_most_56 : decode b_Mod_most 56 = .ok (.ifCond .eq 10, 3) := by decide +kernel
theorem d_Mod_most_59 : decode b_Mod_most 59 = .ok (.aload_n 0, 1) := by decide +kernel
theorem d_Mod_most_60 : decode b_Mod_most 60 = .ok (.bipush (-3), 2) := by decide +kernel
theorem d_Mod_most_62 : decode b_Mod_most 62 = .ok (.invokevirtual 54, 3) := by decide +kernel
theorem d_Mod_most_65 : decode b_Mod_most 65 = .ok (.ireturn, 1) := by decide +kernel
theorem d_Mod_most_66 : decode b_Mod_most 66 = .ok (.iconst 0, 1) := by decide +kernel
theorem d_Mod_most_67 : decode b_Mod_most 67 = .ok (.istore_n 3, 1) := by decide +kernel
theorem d_Mod_most_68 : decode b_Mod_most 68 = .ok (.bipush (-99), 2) := by decide +kernel
theorem d_Mod_most_70 : decode b_Mod_most 70 = .ok (.istore 4, 2) := by decide +kernel
theorem d_Mod_most_72 : decode b_Mod_most 72 = .ok (.iload 4, 2) := by decide +kernel
theorem d_Mod_most_74 : decode b_Mod_most 74 = .ok (.bipush 100, 2) := by decide +kernel
theorem d_Mod_most_76 : decode b_Mod_most 76 = .ok (.if_icmp .ge 90, 3) := by decide +kernel
theorem d_Mod_most_79 : decode b_Mod_most 79 = .ok (.aload_n 0, 1) := by decide +kernel
theorem d_Mod_most_80 : decode b_Mod_most 80 = .ok (.iload_n 1, 1) := by decide +kernel
theorem d_Mod_most_81 : decode b_Mod_most 81 = .ok (.iload_n 2, 1) := by decide +kernel
theorem d_Mod_most_82 : decode b_Mod_most 82 = .ok (.iload 4, 2) := by decide +kernel
theorem d_Mod_most_84 : decode b_Mod_most 84 = .ok (.invokevirtual 187, 3) := by decide +kernel
theorem d_Mod_most_87 : decode b_Mod_most 87 = .ok (.iconst 0, 1) := by decide +kernel
theorem d_Mod_most_88 : decode b_Mod_most 88 = .ok (.istore 5, 2) := by decide +kernel
theorem d_Mod_most_90 : decode b_Mod_most 90 = .ok (.iconst 0, 1) := by decide +kernel
theorem d_Mod_most_91 : decode b_Mod_most 91 = .ok (.istore 6, 2) := by decide +kernel
theorem d_Mod_most_93 : decode b_Mod_most 93 = .ok (.iload 6, 2) := by decide +kernel
theorem d_Mod_most_95 : decode b_Mod_most 95 = .ok (.aload_n 0, 1) := by decide +kernel
theorem d_Mod_most_96 : decode b_Mod_most 96 = .ok (.getfield 58, 3) := by decide +kernel
theorem d_Mod_most_99 : decode b_Mod_most 99 = .ok (.if_icmp .ge 54, 3) := by decide +kernel
theorem d_Mod_most_102 : decode b_Mod_most 102 = .ok (.iconst 0, 1) := by decide +kernel
theorem d_Mod_most_103 : decode b_Mod_most 103 = .ok (.istore 7, 2) := by decide +kernel
theorem d_Mod_most_105 : decode b_Mod_most 105 = .ok (.iload 7, 2) := by decide +kernel
theorem d_Mod_most_107 : decode b_Mod_most 107 = .ok (.iload 6, 2) := by decide +kernel
theorem d_Mod_most_109 : decode b_Mod_most 109 = .ok (.if_icmp .ge 38, 3) := by decide +kernel
theorem d_Mod_most_112 : decode b_Mod_most 112 = .ok (.aload_n 0, 1) := by decide +kernel
theorem d_Mod_most_113 : decode b_Mod_most 113 = .ok (.iload 7, 2) := by decide +kernel
theorem d_Mod_most_115 : decode b_Mod_most 115 = .ok (.iload 6, 2) := by decide +kernel
theorem d_Mod_most_117 : decode b_Mod_most 117 = .ok (.invokevirtual 125, 3) := by decide +kernel
theorem d_Mod_most_120 : decode b_Mod_most 120 = .ok (.ifCond .eq 21, 3) := by decide +kernel
theorem d_Mod_most_123 : decode b_Mod_most 123 = .ok (.aload_n 0, 1) := by decide +kernel
theorem d_Mod_most_124 : decode b_Mod_most 124 = .ok (.aload_n 0, 1) := by decide +kernel
theorem d_Mod_most_125 : decode b_Mod_most 125 = .ok (.getfield 58, 3) := by decide +kernel
theorem d_Mod_most_128 : decode b_Mod_most 128 = .ok (.iload 7, 2) := by decide +kernel
theorem d_Mod_most_130 : decode b_Mod_most 130 = .ok (.iload 6, 2) := by decide +kernel
theorem d_Mod_most_132 : decode b_Mod_most 132 = .ok (.invokevirtual 108, 3) := by decide +kernel
theorem d_Mod_most_135 : decode b_Mod_most 135 = .ok (.ifCond .ne 6, 3) := by decide +kernel
theorem d_Mod_most_138 : decode b_Mod_most 138 = .ok (.iinc 5 1, 3) := by decide +kernel
theorem d_Mod_most_141 : decode b_Mod_most 141 = .ok (.iinc 7 1, 3) := by decide +kernel
theorem d_Mod_most_144 : decode b_Mod_most 144 = .ok (.goto (-39), 3) := by decide +kernel
theorem d_Mod_most_147 : decode b_Mod_most 147 = .ok (.iinc 6 1, 3) := by decide +kernel
theorem d_Mod_most_150 : decode b_Mod_most 150 = .ok (.goto (-57), 3) := by decide +kernel
theorem d_Mod_most_153 : decode b_Mod_most 153 = .ok (.iload_n 3, 1) := by decide +kernel
theorem d_Mod_most_154 : decode b_Mod_most 154 = .ok (.iload 5, 2) := by decide +kernel
theorem d_Mod_most_156 : decode b_Mod_most 156 = .ok (.invokestatic 134, 3) := by decide +kernel
theorem d_Mod_most_159 : decode b_Mod_most 159 = .ok (.istore_n 3, 1) := by decide +kernel
theorem d_Mod_most_160 : decode b_Mod_most 160 = .ok (.iinc 4 1, 3) := by decide +kernel
theorem d_Mod_most_163 : decode b_Mod_most 163 = .ok (.goto (-91), 3) := by decide +kernel
theorem d_Mod_most_166 : decode b_Mod_most 166 = .ok (.iload_n 3, 1) := by decide +kernel
theorem d_Mod_most_167 : decode b_Mod_most 167 = .ok (.ireturn, 1) := by decide +kernel
theorem d_Mod_fear_0 : decode b_Mod_fear 0 = .ok (.aload_n 0, 1) := by decide +kernel
theorem d_Mod_fear_1 : decode b_Mod_fear 1 = .ok (.iload_n 1, 1) := by decide +kernel
theorem d_Mod_fear_2 : decode b_Mod_fear 2 = .ok (.invokevirtual 163, 3) := by decide +kernel
theorem d_Mod_fear_5 : decode b_Mod_fear 5 = .ok (.ifCond .ne 9, 3) := by decide +kernel
theorem d_Mod_fear_8 : decode b_Mod_fear 8 = .ok (.aload_n 0, 1) := by decide +kernel
theorem d_Mod_fear_9 : decode b_Mod_fear 9 = .ok (.iconst (-1), 1) := by decide +kernel
theorem d_Mod_fear_10 : decode b_Mod_fear 10 = .ok (.invokevirtual 54, 3) := by decide +kernel
theorem d_Mod_fear_13 : decode b_Mod_fear 13 = .ok (.ireturn, 1) := by decide +kernel
theorem d_Mod_fear_14 : decode b_Mod_fear 14 = .ok (.iload_n 2, 1) := by decide +kernel
theorem d_Mod_fear_15 : decode b_Mod_fear 15 = .ok (.iconst 0, 1) := by decide +kernel
theorem d_Mod_fear_16 : decode b_Mod_fear 16 = .ok (.iconst 1, 1) := by decide +kernel
theorem d_Mod_fear_17 : decode b_Mod_fear 17 = .ok (.invokestatic 62, 3) := by decide +kernel
theorem d_Mod_fear_20 : decode b_Mod_fear 20 = .ok (.ifCond .ne 10, 3) := by decide +kernel
theorem d_Mod_fear_23 : decode b_Mod_fear 23 = .ok (.aload_n 0, 1) := by decide +kernel
theorem d_Mod_fear_24 : decode b_Mod_fear 24 = .ok (.bipush (-2), 2) := by decide +kernel
theorem d_Mod_fear_26 : decode b_Mod_fear 26 = .ok (.invokevirtual 54, 3) := by decide +kernel
theorem d_Mod_fear_29 : decode b_Mod_fear 29 = .ok (.ireturn, 1) := by decide +kernel
theorem d_Mod_fear_30 : decode b_Mod_fear 30 = .ok (.aload_n 0, 1) := by decide +kernel
theorem d_Mod_fear_31 : decode b_Mod_fear 31 = .ok (.iload_n 1, 1) := by decide +kernel
theorem d_Mod_fear_32 : decode b_Mod_fear 32 = .ok (.invokevirtual 184, 3) := by decide +kernel
theorem d_Mod_fear_35 : decode b_Mod_fear 35 = .ok (.istore_n 3, 1) := by decide +kernel
theorem d_Mod_fear_36 : decode b_Mod_fear 36 = .ok (.iload_n 2, 1) := by decide +kernel
theorem d_Mod_fear_37 : decode b_Mod_fear 37 = .ok (.ifCond .ne 12, 3) := by decide +kernel
theorem d_Mod_fear_40 : decode b_Mod_fear 40 = .ok (.iload_n 3, 1) := by decide +kernel
theorem d_Mod_fear_41 : decode b_Mod_fear 41 = .ok (.bipush (-9), 2) := by decide +kernel
theorem d_Mod_fear_43 : decode b_Mod_fear 43 = .ok (.if_icmp .ne 6, 3) := by decide +kernel
theorem d_Mod_fear_46 : decode b_Mod_fear 46 = .ok (.bipush (-9), 2) := by decide +kernel
theorem d_Mod_fear_48 : decode b_Mod_fear 48 = .ok (.ireturn, 1) := by decide +kernel
theorem d_Mod_fear_49 : decode b_Mod_fear 49 = .ok (.iconst 0, 1) := by decide +kernel
theorem d_Mod_fear_50 : decode b_Mod_fear 50 = .ok (.istore 4, 2) := by decide +kernel
theorem d_Mod_fear_52 : decode b_Mod_fear 52 = .ok (.iconst 0, 1) := by decide +kernel
theorem d_Mod_fear_53 : decode b_Mod_fear 53 = .ok (.istore 5, 2) := by decide +kernel
theorem d_Mod_fear_55 : decode b_Mod_fear 55 = .ok (.iconst 0, 1) := by decide +kernel
theorem d_Mod_fear_56 : decode b_Mod_fear 56 = .ok (.istore 6, 2) := by decide +kernel
theorem d_Mod_fear_58 : decode b_Mod_fear 58 = .ok (.iload 6, 2) := by decide +kernel
theorem d_Mod_fear_60 : decode b_Mod_fear 60 = .ok (.iconst 3, 1) := by decide +kernel
theorem d_Mod_fear_61 : decode b_Mod_fear 61 = .ok (.if_icmp .ge 112, 3) := by decide +kernel
theorem d_Mod_fear_64 : decode b_Mod_fear 64 = .ok (.bipush (-2), 2) := by decide +kernel
theorem d_Mod_fear_66 : decode b_Mod_fear 66 = .ok (.istore 7, 2) := by decide +kernel
theorem d_Mod_fear_68 : decode b_Mod_fear 68 = .ok (.iload 7, 2) := by decide +kernel
theorem d_Mod_fear_70 : decode b_Mod_fear 70 = .ok (.iconst 3, 1) := by decide +kernel
theorem d_Mod_fear_71 : decode b_Mod_fear 71 = .ok (.if_icmp .ge 96, 3) := by decide +kernel
theorem d_Mod_fear_74 : decode b_Mod_fear 74 = .ok (.iload 6, 2) := by decide +kernel
theorem d_Mod_fear_76 : decode b_Mod_fear 76 = .ok (.ifCond .ne 8, 3) := by decide +kernel
theorem d_Mod_fear_79 : decode b_Mod_fear 79 = .ok (.iload 7, 2) := by decide +kernel
theorem d_Mod_fear_81 : decode b_Mod_fear 81 = .ok (.ifCond .eq 80, 3) := by decide +kernel
theorem d_Mod_fear_84 : decode b_Mod_fear 84 = .ok (.aload_n 0, 1) := by decide +kernel
theorem d_Mod_fear_85 : decode b_Mod_fear 85 = .ok (.iload 6, 2) := by decide +kernel
theorem d_Mod_fear_87 : decode b_Mod_fear 87 = .ok (.iload 7, 2) := by decide +kernel
theorem d_Mod_fear_89 : decode b_Mod_fear 89 = .ok (.aload_n 0, 1) := by decide +kernel
theorem d_Mod_fear_90 : decode b_Mod_fear 90 = .ok (.getfield 58, 3) := by decide +kernel
theorem d_Mod_fear_93 : decode b_Mod_fear 93 = .ok (.invokevirtual 94, 3) := by decide +kernel
theorem d_Mod_fear_96 : decode b_Mod_fear 96 = .ok (.ifCond .eq 6, 3) := by decide +kernel
theorem d_Mod_fear_99 : decode b_Mod_fear 99 = .ok (.goto 62, 3) := by decide +kernel
theorem d_Mod_fear_102 : decode b_Mod_fear 102 = .ok (.bipush (-9), 2) := by decide +kernel
theorem d_Mod_fear_104 : decode b_Mod_fear 104 = .ok (.istore 8, 2) := by decide +kernel
theorem d_Mod_fear_106 : decode b_Mod_fear 106 = .ok (.iload 8, 2) := by decide +kernel
theorem d_Mod_fear_108 : decode b_Mod_fear 108 = .ok (.bipush 10, 2) := by decide +kernel
theorem d_Mod_fear_110 : decode b_Mod_fear 110 = .ok (.if_icmp .ge 51, 3) := by decide +kernel
theorem d_Mod_fear_113 : decode b_Mod_fear 113 = .ok (.iinc 4 1, 3) := by decide +kernel
theorem d_Mod_fear_116 : decode b_Mod_fear 116 = .ok (.iload_n 2, 1) := by decide +kernel
theorem d_Mod_fear_117 : decode b_Mod_fear 117 = .ok (.iconst 1, 1) := by decide +kernel
theorem d_Mod_fear_118 : decode b_Mod_fear 118 = .ok (.if_icmp .ne 6, 3) := by decide +kernel
theorem d_Mod_fear_121 : decode b_Mod_fear 121 = .ok (.goto 34, 3) := by decide +kernel
theorem d_Mod_fear_124 : decode b_Mod_fear 124 = .ok (.aload_n 0, 1) := by decide +kernel
theorem d_Mod_fear_125 : decode b_Mod_fear 125 = .ok (.iload 6, 2) := by decide +kernel
theorem d_Mod_fear_127 : decode b_Mod_fear 127 = .ok (.iload 7, 2) := by decide +kernel
theorem d_Mod_fear_129 : decode b_Mod_fear 129 = .ok (.iload 8, 2) := by decide +kernel
theorem d_Mod_fear_131 : decode b_Mod_fear 131 = .ok (.invokevirtual 187, 3) := by decide +kernel
theorem d_Mod_fear_134 : decode b_Mod_fear 134 = .ok (.aload_n 0, 1) := by decide +kernel
theorem d_Mod_fear_135 : decode b_Mod_fear 135 = .ok (.aload_n 0, 1) := by decide +kernel
theorem d_Mod_fear_136 : decode b_Mod_fear 136 = .ok (.getfield 58, 3) := by decide +kernel
theorem d_Mod_fear_139 : decode b_Mod_fear 139 = .ok (.iconst 1, 1) := by decide +kernel
theorem d_Mod_fear_140 : decode b_Mod_fear 140 = .ok (.iadd, 1) := by decide +kernel
theorem d_Mod_fear_141 : decode b_Mod_fear 141 = .ok (.invokevirtual 146, 3) := by decide +kernel
theorem d_Mod_fear_144 : decode b_Mod_fear 144 = .ok (.aload_n 0, 1) := by decide +kernel
theorem d_Mod_fear_145 : decode b_Mod_fear 145 = .ok (.iload_n 3, 1) := by decide +kernel
theorem d_Mod_fear_146 : decode b_Mod_fear 146 = .ok (.invokevirtual 191, 3) := by decide +kernel
theorem d_Mod_fear_149 : decode b_Mod_fear 149 = .ok (.ifCond .eq 6, 3) := by decide +kernel
theorem d_Mod_fear_152 : decode b_Mod_fear 152 = .ok (.iinc 5 1, 3) := by decide +kernel
theorem d_Mod_fear_155 : decode b_Mod_fear 155 = .ok (.iinc 8 1, 3) := by decide +kernel
theorem d_Mod_fear_158 : decode b_Mod_fear 158 = .ok (.goto (-52), 3) := by decide +kernel
theorem d_Mod_fear_161 : decode b_Mod_fear 161 = .ok (.iinc 7 1, 3) := by decide +kernel
theorem d_Mod_fear_164 : decode b_Mod_fear 164 = .ok (.goto (-96), 3) := by decide +kernel
theorem d_Mod_fear_167 : decode b_Mod_fear 167 = .ok (.iinc 6 1, 3) := by decide +kernel
theorem d_Mod_fear_170 : decode b_Mod_fear 170 = .ok (.goto (-112), 3) := by decide +kernel
theorem d_Mod_fear_173 : decode b_Mod_fear 173 = .ok (.iload_n 2, 1) := by decide +kernel
theorem d_Mod_fear_174 : decode b_Mod_fear 174 = .ok (.ifCond .ne 8, 3) := by decide +kernel
theorem d_Mod_fear_177 : decode b_Mod_fear 177 = .ok (.iload 5, 2) := by decide +kernel
theorem d_Mod_fear_179 : decode b_Mod_fear 179 = .ok (.goto 5, 3) := by decide +kernel
theorem d_Mod_fear_182 : decode b_Mod_fear 182 = .ok (.iload 4, 2) := by decide +kernel
theorem d_Mod_fear_184 : decode b_Mod_fear 184 = .ok (.ireturn, 1) := by decide +kernel
theorem d_Mod_without_0 : decode b_Mod_without 0 = .ok (.aload_n 0, 1) := by decide +kernel
theorem d_Mod_without_1 : decode b_Mod_without 1 = .ok (.getfield 13, 3) := by decide +kernel
theorem d_Mod_without_4 : decode b_Mod_without 4 = .ok (.iload_n 1, 1) := by decide +kernel
theorem d_Mod_without_5 : decode b_Mod_without 5 = .ok (.iaload, 1) := by decide +kernel
theorem d_Mod_without_6 : decode b_Mod_without 6 = .ok (.istore_n 2, 1) := by decide +kernel
theorem d_Mod_without_7 : decode b_Mod_without 7 = .ok (.aload_n 0, 1) := by decide +kernel
theorem d_Mod_without_8 : decode b_Mod_without 8 = .ok (.getfield 16, 3) := by decide +kernel
theorem d_Mod_without_11 : decode b_Mod_without 11 = .ok (.iload_n 1, 1) := by decide +kernel
theorem d_Mod_without_12 : decode b_Mod_without 12 = .ok (.iaload, 1) := by decide +kernel
theorem d_Mod_without_13 : decode b_Mod_without 13 = .ok (.istore_n 3, 1) := by decide +kernel
theorem d_Mod_without_14 : decode b_Mod_without 14 = .ok (.aload_n 0, 1) := by decide +kernel
theorem d_Mod_without_15 : decode b_Mod_without 15 = .ok (.getfield 19, 3) := by decide +kernel
theorem d_Mod_without_18 : decode b_Mod_without 18 = .ok (.iload_n 1, 1) := by decide +kernel
theorem d_Mod_without_19 : decode b_Mod_without 19 = .ok (.iaload, 1) := by decide +kernel
theorem d_Mod_without_20 : decode b_Mod_without 20 = .ok (.istore 4, 2) := by decide +kernel
theorem d_Mod_without_22 : decode b_Mod_without 22 = .ok (.aload_n 0, 1) := by decide +kernel
theorem d_Mod_without_23 : decode b_Mod_without 23 = .ok (.getfield 58, 3) := by decide +kernel
theorem d_Mod_without_26 : decode b_Mod_without 26 = .ok (.iconst 1, 1) := by decide +kernel
theorem d_Mod_without_27 : decode b_Mod_without 27 = .ok (.isub, 1) := by decide +kernel
theorem d_Mod_without_28 : decode b_Mod_without 28 = .ok (.istore 5, 2) := by decide +kernel
theorem d_Mod_without_30 : decode b_Mod_without 30 = .ok (.aload_n 0, 1) := by decide +kernel
theorem d_Mod_without_31 : decode b_Mod_without 31 = .ok (.getfield 13, 3) := by decide +kernel
theorem d_Mod_without_34 : decode b_Mod_without 34 = .ok (.iload_n 1, 1) := by decide +kernel
theorem d_Mod_without_35 : decode b_Mod_without 35 = .ok (.aload_n 0, 1) := by decide +kernel
theorem d_Mod_without_36 : decode b_Mod_without 36 = .ok (.getfield 13, 3) := by decide +kernel
theorem d_Mod_without_39 : decode b_Mod_without 39 = .ok (.iload 5, 2) := by decide +kernel
theorem d_Mod_without_41 : decode b_Mod_without 41 = .ok (.iaload, 1) := by decide +kernel
theorem d_Mod_without_42 : decode b_Mod_without 42 = .ok (.iastore, 1) := by decide +kernel
theorem d_Mod_without_43 : decode b_Mod_without 43 = .ok (.aload_n 0, 1) := by decide +kernel
theorem d_Mod_without_44 : decode b_Mod_without 44 = .ok (.getfield 16, 3) := by decide +kernel
theorem d_Mod_without_47 : decode b_Mod_without 47 = .ok (.iload_n 1, 1) := by decide +kernel
theorem d_Mod_without_48 : decode b_Mod_without 48 = .ok (.aload_n 0, 1) := by decide +kernel
theorem d_Mod_without_49 : decode b_Mod_without 49 = .ok (.getfield 16, 3) := by decide +kernel
theorem d_Mod_without_52 : decode b_Mod_without 52 = .ok (.iload 5, 2) := by decide +kernel
theorem d_Mod_without_54 : decode b_Mod_without 54 = .ok (.iaload, 1) := by decide +kernel
theorem d_Mod_without_55 : decode b_Mod_without 55 = .ok (.iastore, 1) := by decide +kernel
theorem d_Mod_without_56 : decode b_Mod_without 56 = .ok (.aload_n 0, 1) := by decide +kernel
theorem d_Mod_without_57 : decode b_Mod_without 57 = .ok (.getfield 19, 3) := by decide +kernel
theorem d_Mod_without_60 : decode b_Mod_without 60 = .ok (.iload_n 1, 1) := by decide +kernel
theorem d_Mod_without_61 : decode b_Mod_without 61 = .ok (.aload_n 0, 1) := by decide +kernel
theorem d_Mod_without_62 : decode b_Mod_without 62 = .ok (.getfield 19, 3) := by decide +kernel
theorem d_Mod_without_65 : decode b_Mod_without 65 = .ok (.iload 5, 2) := by decide +kernel
theorem d_Mod_without_67 : decode b_Mod_without 67 = .ok (.iaload, 1) := by decide +kernel
theorem d_Mod_without_68 : decode b_Mod_without 68 = .ok (.iastore, 1) := by decide +kernel
theorem d_Mod_without_69 : decode b_Mod_without 69 = .ok (.aload_n 0, 1) := by decide +kernel
theorem d_Mod_without_70 : decode b_Mod_without 70 = .ok (.iload 5, 2) := by decide +kernel
theorem d_Mod_without_72 : decode b_Mod_without 72 = .ok (.invokevirtual 146, 3) := by decide +kernel
theorem d_Mod_without_75 : decode b_Mod_without 75 = .ok (.aload_n 0, 1) := by decide +kernel
theorem d_Mod_without_76 : decode b_Mod_without 76 = .ok (.invokevirtual 169, 3) := by decide +kernel
theorem d_Mod_without_79 : decode b_Mod_without 79 = .ok (.istore 6, 2) := by decide +kernel
theorem d_Mod_without_81 : decode b_Mod_without 81 = .ok (.aload_n 0, 1) := by decide +kernel
theorem d_Mod_without_82 : decode b_Mod_without 82 = .ok (.getfield 13, 3) := by decide +kernel
theorem d_Mod_without_85 : decode b_Mod_without 85 = .ok (.iload_n 1, 1) := by decide +kernel
theorem d_Mod_without_86 : decode b_Mod_without 86 = .ok (.iload_n 2, 1) := by decide +kernel
theorem d_Mod_without_87 : decode b_Mod_without 87 = .ok (.iastore, 1) := by decide +kernel
theorem d_Mod_without_88 : decode b_Mod_without 88 = .ok (.aload_n 0, 1) := by decide +kernel
theorem d_Mod_without_89 : decode b_Mod_without 89 = .ok (.getfield 16, 3) := by decide +kernel
theorem d_Mod_without_92 : decode b_Mod_without 92 = .ok (.iload_n 1, 1) := by decide +kernel
theorem d_Mod_without_93 : decode b_Mod_without 93 = .ok (.iload_n 3, 1) := by decide +kernel
theorem d_Mod_without_94 : decode b_Mod_without 94 = .ok (.iastore, 1) := by decide +kernel
theorem d_Mod_without_95 : decode b_Mod_without 95 = .ok (.aload_n 0, 1) := by decide +kernel
theorem d_Mod_without_96 : decode b_Mod_without 96 = .ok (.getfield 19, 3) := by decide +kernel
theorem d_Mod_without_99 : decode b_Mod_without 99 = .ok (.iload_n 1, 1) := by decide +kernel
theorem d_Mod_without_100 : decode b_Mod_without 100 = .ok (.iload 4, 2) := by decide +kernel
theorem d_Mod_without_102 : decode b_Mod_without 102 = .ok (.iastore, 1) := by decide +kernel
theorem d_Mod_without_103 : decode b_Mod_without 103 = .ok (.iload 6, 2) := by decide +kernel
theorem d_Mod_without_105 : decode b_Mod_without 105 = .ok (.ireturn, 1) := by decide +kernel
theorem d_Mod_taken_0 : decode b_Mod_taken 0 = .ok (.iload_n 1, 1) := by decide +kernel
theorem d_Mod_taken_1 : decode b_Mod_taken 1 = .ok (.iconst (-1), 1) := by decide +kernel
theorem d_Mod_taken_2 : decode b_Mod_taken 2 = .ok (.if_icmp .eq 25, 3) := by decide +kernel
theorem d_Mod_taken_5 : decode b_Mod_taken 5 = .ok (.aload_n 0, 1) := by decide +kernel
theorem d_Mod_taken_6 : decode b_Mod_taken 6 = .ok (.iload_n 1, 1) := by decide +kernel
theorem d_Mod_taken_7 : decode b_Mod_taken 7 = .ok (.invokevirtual 154, 3) := by decide +kernel
theorem d_Mod_taken_10 : decode b_Mod_taken 10 = .ok (.ifCond .eq 11, 3) := by decide +kernel
theorem d_Mod_taken_13 : decode b_Mod_taken 13 = .ok (.aload_n 0, 1) := by decide +kernel
theorem d_Mod_taken_14 : decode b_Mod_taken 14 = .ok (.iload_n 1, 1) := by decide +kernel
theorem d_Mod_taken_15 : decode b_Mod_taken 15 = .ok (.invokevirtual 194, 3) := by decide +kernel
theorem d_Mod_taken_18 : decode b_Mod_taken 18 = .ok (.goto 8, 3) := by decide +kernel
theorem d_Mod_taken_21 : decode b_Mod_taken 21 = .ok (.aload_n 0, 1) := by decide +kernel
theorem d_Mod_taken_22 : decode b_Mod_taken 22 = .ok (.iconst (-1), 1) := by decide +kernel
theorem d_Mod_taken_23 : decode b_Mod_taken 23 = .ok (.invokevirtual 54, 3) := by decide +kernel
theorem d_Mod_taken_26 : decode b_Mod_taken 26 = .ok (.ireturn, 1) := by decide +kernel
theorem d_Mod_taken_27 : decode b_Mod_taken 27 = .ok (.bipush (-9), 2) := by decide +kernel
theorem d_Mod_taken_29 : decode b_Mod_taken 29 = .ok (.istore_n 2, 1) := by decide +kernel
theorem d_Mod_taken_30 : decode b_Mod_taken 30 = .ok (.iconst 0, 1) := by decide +kernel
theorem d_Mod_taken_31 : decode b_Mod_taken 31 = .ok (.istore_n 3, 1) := by decide +kernel
theorem d_Mod_taken_32 : decode b_Mod_taken 32 = .ok (.iconst 0, 1) := by decide +kernel
theorem d_Mod_taken_33 : decode b_Mod_taken 33 = .ok (.istore 4, 2) := by decide +kernel
theorem d_Mod_taken_35 : decode b_Mod_taken 35 = .ok (.iload 4, 2) := by decide +kernel
theorem d_Mod_taken_37 : decode b_Mod_taken 37 = .ok (.aload_n 0, 1) := by decide +kernel
theorem d_Mod_taken_38 : decode b_Mod_taken 38 = .ok (.getfield 58, 3) := by decide +kernel
theorem d_Mod_taken_41 : decode b_Mod_taken 41 = .ok (.if_icmp .ge 36, 3) := by decide +kernel
theorem d_Mod_taken_44 : decode b_Mod_taken 44 = .ok (.aload_n 0, 1) := by decide +kernel
theorem d_Mod_taken_45 : decode b_Mod_taken 45 = .ok (.iload 4, 2) := by decide +kernel
theorem d_Mod_taken_47 : decode b_Mod_taken 47 = .ok (.invokevirtual 194, 3) := by decide +kernel
theorem d_Mod_taken_50 : decode b_Mod_taken 50 = .ok (.istore 5, 2) := by decide +kernel
theorem d_Mod_taken_52 : decode b_Mod_taken 52 = .ok (.iload_n 2, 1) := by decide +kernel
theorem d_Mod_taken_53 : decode b_Mod_taken 53 = .ok (.ifCond .lt 12, 3) := by decide +kernel
theorem d_Mod_taken_56 : decode b_Mod_taken 56 = .ok (.iload 5, 2) := by decide +kernel
theorem d_Mod_taken_58 : decode b_Mod_taken 58 = .ok (.iload_n 3, 1) := by decide +kernel
theorem d_Mod_taken_59 : decode b_Mod_taken 59 = .ok (.if_icmp .lt 6, 3) := by decide +kernel
theorem d_Mod_taken_62 : decode b_Mod_taken 62 = .ok (.goto 9, 3) := by decide +kernel
theorem d_Mod_taken_65 : decode b_Mod_taken 65 = .ok (.iload 4, 2) := by decide +kernel
theorem d_Mod_taken_67 : decode b_Mod_taken 67 = .ok (.istore_n 2, 1) := by decide +kernel
theorem d_Mod_taken_68 : decode b_Mod_taken 68 = .ok (.iload 5, 2) := by decide +kernel
theorem d_Mod_taken_70 : decode b_Mod_taken 70 = .ok (.istore_n 3, 1) := by decide +kernel
theorem d_Mod_taken_71 : decode b_Mod_taken 71 = .ok (.iinc 4 1, 3) := by decide +kernel
theorem d_Mod_taken_74 : decode b_Mod_taken 74 = .ok (.goto (-39), 3) := by decide +kernel
theorem d_Mod_taken_77 : decode b_Mod_taken 77 = .ok (.iload_n 2, 1) := by decide +kernel
theorem d_Mod_taken_78 : decode b_Mod_taken 78 = .ok (.ireturn, 1) := by decide +kernel
theorem d_Mod_row_0 : decode b_Mod_row 0 = .ok (.iload_n 1, 1) := by decide +kernel
theorem d_Mod_row_1 : decode b_Mod_row 1 = .ok (.ifCond .ge 10, 3) := by decide +kernel
theorem d_Mod_row_4 : decode b_Mod_row 4 = .ok (.aload_n 0, 1) := by decide +kernel
theorem d_Mod_row_5 : decode b_Mod_row 5 = .ok (.bipush (-4), 2) := by decide +kernel
theorem d_Mod_row_7 : decode b_Mod_row 7 = .ok (.invokevirtual 54, 3) := by decide +kernel
theorem d_Mod_row_10 : decode b_Mod_row 10 = .ok (.ireturn, 1) := by decide +kernel
theorem d_Mod_row_11 : decode b_Mod_row 11 = .ok (.iload_n 1, 1) := by decide +kernel
theorem d_Mod_row_12 : decode b_Mod_row 12 = .ok (.bipush 63, 2) := by decide +kernel
theorem d_Mod_row_14 : decode b_Mod_row 14 = .ok (.if_icmp .gt 12, 3) := by decide +kernel
theorem d_Mod_row_17 : decode b_Mod_row 17 = .ok (.aload_n 0, 1) := by decide +kernel
theorem d_Mod_row_18 : decode b_Mod_row 18 = .ok (.getfield 197, 3) := by decide +kernel
theorem d_Mod_row_21 : decode b_Mod_row 21 = .ok (.bipush 12, 2) := by decide +kernel
theorem d_Mod_row_23 : decode b_Mod_row 23 = .ok (.if_icmp .ne 10, 3) := by decide +kernel
theorem d_Mod_row_26 : decode b_Mod_row 26 = .ok (.aload_n 0, 1) := by decide +kernel
theorem d_Mod_row_27 : decode b_Mod_row 27 = .ok (.bipush (-6), 2) := by decide +kernel
theorem d_Mod_row_29 : decode b_Mod_row 29 = .ok (.invokevirtual 54, 3) := by decide +kernel
theorem d_Mod_row_32 : decode b_Mod_row 32 = .ok (.ireturn, 1) := by decide +kernel
theorem d_Mod_row_33 : decode b_Mod_row 33 = .ok (.aload_n 0, 1) := by decide +kernel
theorem d_Mod_row_34 : decode b_Mod_row 34 = .ok (.getfield 34, 3) := by decide +kernel
theorem d_Mod_row_37 : decode b_Mod_row 37 = .ok (.aload_n 0, 1) := by decide +kernel
theorem d_Mod_row_38 : decode b_Mod_row 38 = .ok (.dup, 1) := by decide +kernel
theorem d_Mod_row_39 : decode b_Mod_row 39 = .ok (.getfield 197, 3) := by decide +kernel
theorem d_Mod_row_42 : decode b_Mod_row 42 = .ok (.dup_x1, 1) := by decide +kernel
theorem d_Mod_row_43 : decode b_Mod_row 43 = .ok (.iconst 1, 1) := by decide +kernel
theorem d_Mod_row_44 : decode b_Mod_row 44 = .ok (.iadd, 1) := by decide +kernel
theorem d_Mod_row_45 : decode b_Mod_row 45 = .ok (.putfield 197, 3) := by decide +kernel
theorem d_Mod_row_48 : decode b_Mod_row 48 = .ok (.iload_n 1, 1) := by decide +kernel
theorem d_Mod_row_49 : decode b_Mod_row 49 = .ok (.iastore, 1) := by decide +kernel
theorem d_Mod_row_50 : decode b_Mod_row 50 = .ok (.aload_n 0, 1) := by decide +kernel
theorem d_Mod_row_51 : decode b_Mod_row 51 = .ok (.getfield 197, 3) := by decide +kernel
theorem d_Mod_row_54 : decode b_Mod_row 54 = .ok (.ireturn, 1) := by decide +kernel
theorem d_Mod_judge_0 : decode b_Mod_judge 0 = .ok (.aload_n 0, 1) := by decide +kernel
theorem d_Mod_judge_1 : decode b_Mod_judge 1 = .ok (.getfield 197, 3) := by decide +kernel
theorem d_Mod_judge_4 : decode b_Mod_judge 4 = .ok (.istore_n 1, 1) := by decide +kernel
theorem d_Mod_judge_5 : decode b_Mod_judge 5 = .ok (.aload_n 0, 1) := by decide +kernel
theorem d_Mod_judge_6 : decode b_Mod_judge 6 = .ok (.iconst 0, 1) := by decide +kernel
theorem d_Mod_judge_7 : decode b_Mod_judge 7 = .ok (.putfield 197, 3) := by decide +kernel
theorem d_Mod_judge_10 : decode b_Mod_judge 10 = .ok (.iconst 0, 1) := by decide +kernel
theorem d_Mod_judge_11 : decode b_Mod_judge 11 = .ok (.istore_n 2, 1) := by decide +kernel
theorem d_Mod_judge_12 : decode b_Mod_judge 12 = .ok (.iload_n 2, 1) := by decide +kernel
theorem d_Mod_judge_13 : decode b_Mod_judge 13 = .ok (.iload_n 1, 1) := by decide +kernel
theorem d_Mod_judge_14 : decode b_Mod_judge 14 = .ok (.if_icmp .ge 50, 3) := by decide +kernel
theorem d_Mod_judge_17 : decode b_Mod_judge 17 = .ok (.aload_n 0, 1) := by decide +kernel
theorem d_Mod_judge_18 : decode b_Mod_judge 18 = .ok (.aload_n 0, 1) := by decide +kernel
theorem d_Mod_judge_19 : decode b_Mod_judge 19 = .ok (.getfield 34, 3) := by decide +kernel
theorem d_Mod_judge_22 : decode b_Mod_judge 22 = .ok (.iload_n 2, 1) := by decide +kernel
theorem d_Mod_judge_23 : decode b_Mod_judge 23 = .ok (.iaload, 1) := by decide +kernel
theorem d_Mod_judge_24 : decode b_Mod_judge 24 = .ok (.invokevirtual 173, 3) := by decide +kernel
theorem d_Mod_judge_27 : decode b_Mod_judge 27 = .ok (.ifCond .eq 29, 3) := by decide +kernel
theorem d_Mod_judge_30 : decode b_Mod_judge 30 = .ok (.iload_n 2, 1) := by decide +kernel
theorem d_Mod_judge_31 : decode b_Mod_judge 31 = .ok (.ifCond .le 27, 3) := by decide +kernel
theorem d_Mod_judge_34 : decode b_Mod_judge 34 = .ok (.aload_n 0, 1) := by decide +kernel
theorem d_Mod_judge_35 : decode b_Mod_judge 35 = .ok (.getfield 34, 3) := by decide +kernel
theorem d_Mod_judge_38 : decode b_Mod_judge 38 = .ok (.iload_n 2, 1) := by decide +kernel
theorem d_Mod_judge_39 : decode b_Mod_judge 39 = .ok (.iaload, 1) := by decide +kernel
theorem d_Mod_judge_40 : decode b_Mod_judge 40 = .ok (.aload_n 0, 1) := by decide +kernel
theorem d_Mod_judge_41 : decode b_Mod_judge 41 = .ok (.getfield 34, 3) := by decide +kernel
theorem d_Mod_judge_44 : decode b_Mod_judge 44 = .ok (.iload_n 2, 1) := by decide +kernel
theorem d_Mod_judge_45 : decode b_Mod_judge 45 = .ok (.iconst 1, 1) := by decide +kernel
theorem d_Mod_judge_46 : decode b_Mod_judge 46 = .ok (.isub, 1) := by decide +kernel
theorem d_Mod_judge_47 : decode b_Mod_judge 47 = .ok (.iaload, 1) := by decide +kernel
theorem d_Mod_judge_48 : decode b_Mod_judge 48 = .ok (.ixor, 1) := by decide +kernel
theorem d_Mod_judge_49 : decode b_Mod_judge 49 = .ok (.invokestatic 129, 3) := by decide +kernel
theorem d_Mod_judge_52 : decode b_Mod_judge 52 = .ok (.iconst 1, 1) := by decide +kernel
theorem d_Mod_judge_53 : decode b_Mod_judge 53 = .ok (.if_icmp .eq 5, 3) := by decide +kernel
theorem d_Mod_judge_56 : decode b_Mod_judge 56 = .ok (.iload_n 2, 1) := by decide +kernel
theorem d_Mod_judge_57 : decode b_Mod_judge 57 = .ok (.ireturn, 1) := by decide +kernel
theorem d_Mod_judge_58 : decode b_Mod_judge 58 = .ok (.iinc 2 1, 3) := by decide +kernel
theorem d_Mod_judge_61 : decode b_Mod_judge 61 = .ok (.goto (-49), 3) := by decide +kernel
theorem d_Mod_judge_64 : decode b_Mod_judge 64 = .ok (.bipush (-9), 2) := by decide +kernel
theorem d_Mod_judge_66 : decode b_Mod_judge 66 = .ok (.ireturn, 1) := by decide +kernel
theorem d_Mod_seeds_0 : decode b_Mod_seeds 0 = .ok (.iload_n 1, 1) := by decide +kernel
theorem d_Mod_seeds_1 : decode b_Mod_seeds 1 = .ok (.iconst 1, 1) := by decide +kernel
theorem d_Mod_seeds_2 : decode b_Mod_seeds 2 = .ok (.if_icmp .ge 10, 3) := by decide +kernel
theorem d_Mod_seeds_5 : decode b_Mod_seeds 5 = .ok (.aload_n 0, 1) := by decide +kernel
theorem d_Mod_seeds_6 : decode b_Mod_seeds 6 = .ok (.bipush (-4), 2) := by decide +kernel
theorem d_Mod_seeds_8 : decode b_Mod_seeds 8 = .ok (.invokevirtual 54, 3) := by decide +kernel
theorem d_Mod_seeds_11 : decode b_Mod_seeds 11 = .ok (.ireturn, 1) := by decide +kernel
theorem d_Mod_seeds_12 : decode b_Mod_seeds 12 = .ok (.iload_n 1, 1) := by decide +kernel
theorem d_Mod_seeds_13 : decode b_Mod_seeds 13 = .ok (.bipush 30, 2) := by decide +kernel
theorem d_Mod_seeds_15 : decode b_Mod_seeds 15 = .ok (.if_icmp .le 10, 3) := by decide +kernel
theorem d_Mod_seeds_18 : decode b_Mod_seeds 18 = .ok (.aload_n 0, 1) := by decide +kernel
theorem d_Mod_seeds_19 : decode b_Mod_seeds 19 = .ok (.bipush (-6), 2) := by decide +kernel
theorem d_Mod_seeds_21 : decode b_Mod_seeds 21 = .ok (.invokevirtual 54, 3) := by decide +kernel
theorem d_Mod_seeds_24 : decode b_Mod_seeds 24 = .ok (.ireturn, 1) := by decide +kernel
theorem d_Mod_seeds_25 : decode b_Mod_seeds 25 = .ok (.iload_n 2, 1) := by decide +kernel
theorem d_Mod_seeds_26 : decode b_Mod_seeds 26 = .ok (.istore_n 3, 1) := by decide +kernel
theorem d_Mod_seeds_27 : decode b_Mod_seeds 27 = .ok (.lconst 0, 1) := by decide +kernel
theorem d_Mod_seeds_28 : decode b_Mod_seeds 28 = .ok (.lstore 4, 2) := by decide +kernel
theorem d_Mod_seeds_30 : decode b_Mod_seeds 30 = .ok (.iconst 0, 1) := by decide +kernel
theorem d_Mod_seeds_31 : decode b_Mod_seeds 31 = .ok (.istore 6, 2) := by decide +kernel
theorem d_Mod_seeds_33 : decode b_Mod_seeds 33 = .ok (.iload 6, 2) := by decide +kernel
theorem d_Mod_seeds_35 : decode b_Mod_seeds 35 = .ok (.iload_n 1, 1) := by decide +kernel
theorem d_Mod_seeds_36 : decode b_Mod_seeds 36 = .ok (.if_icmp .ge 83, 3) := by decide +kernel
theorem d_Mod_seeds_39 : decode b_Mod_seeds 39 = .ok (.iload_n 3, 1) := by decide +kernel
theorem d_Mod_seeds_40 : decode b_Mod_seeds 40 = .ok (.ldc 200, 2) := by decide +kernel
theorem d_Mod_seeds_42 : decode b_Mod_seeds 42 = .ok (.imul, 1) := by decide +kernel
theorem d_Mod_seeds_43 : decode b_Mod_seeds 43 = .ok (.ldc 201, 2) := by decide +kernel
theorem d_Mod_seeds_45 : decode b_Mod_seeds 45 = .ok (.iadd, 1) := by decide +kernel
theorem d_Mod_seeds_46 : decode b_Mod_seeds 46 = .ok (.istore_n 3, 1) := by decide +kernel
theorem d_Mod_seeds_47 : decode b_Mod_seeds 47 = .ok (.iload_n 3, 1) := by decide +kernel
theorem d_Mod_seeds_48 : decode b_Mod_seeds 48 = .ok (.ldc 202, 2) := by decide +kernel
theorem d_Mod_seeds_50 : decode b_Mod_seeds 50 = .ok (.iand, 1) := by decide +kernel
theorem d_Mod_seeds_51 : decode b_Mod_seeds 51 = .ok (.sipush 256, 3) := by decide +kernel
theorem d_Mod_seeds_54 : decode b_Mod_seeds 54 = .ok (.idiv, 1) := by decide +kernel
theorem d_Mod_seeds_55 : decode b_Mod_seeds 55 = .ok (.bipush 41, 2) := by decide +kernel
theorem d_Mod_seeds_57 : decode b_Mod_seeds 57 = .ok (.irem, 1) := by decide +kernel
theorem d_Mod_seeds_58 : decode b_Mod_seeds 58 = .ok (.bipush 20, 2) := by decide +kernel
theorem d_Mod_seeds_60 : decode b_Mod_seeds 60 = .ok (.isub, 1) := by decide +kernel
theorem d_Mod_seeds_61 : decode b_Mod_seeds 61 = .ok (.istore 7, 2) := by decide +kernel
theorem d_Mod_seeds_63 : decode b_Mod_seeds 63 = .ok (.iload_n 3, 1) := by decide +kernel
theorem d_Mod_seeds_64 : decode b_Mod_seeds 64 = .ok (.ldc 200, 2) := by decide +kernel
theorem d_Mod_seeds_66 : decode b_Mod_seeds 66 = .ok (.imul, 1) := by decide +kernel
theorem d_Mod_seeds_67 : decode b_Mod_seeds 67 = .ok (.ldc 201, 2) := by decide +kernel
theorem d_Mod_seeds_69 : decode b_Mod_seeds 69 = .ok (.iadd, 1) := by decide +kernel
theorem d_Mod_seeds_70 : decode b_Mod_seeds 70 = .ok (.istore_n 3, 1) := by decide +kernel
theorem d_Mod_seeds_71 : decode b_Mod_seeds 71 = .ok (.iload_n 3, 1) := by decide +kernel
theorem d_Mod_seeds_72 : decode b_Mod_seeds 72 = .ok (.ldc 202, 2) := by decide +kernel
theorem d_Mod_seeds_74 : decode b_Mod_seeds 74 = .ok (.iand, 1) := by decide +kernel
theorem d_Mod_seeds_75 : decode b_Mod_seeds 75 = .ok (.sipush 256, 3) := by decide +kernel
theorem d_Mod_seeds_78 : decode b_Mod_seeds 78 = .ok (.idiv, 1) := by decide +kernel
theorem d_Mod_seeds_79 : decode b_Mod_seeds 79 = .ok (.bipush 41, 2) := by decide +kernel
theorem d_Mod_seeds_81 : decode b_Mod_seeds 81 = .ok (.irem, 1) := by decide +kernel
theorem d_Mod_seeds_82 : decode b_Mod_seeds 82 = .ok (.bipush 20, 2) := by decide +kernel
theorem d_Mod_seeds_84 : decode b_Mod_seeds 84 = .ok (.isub, 1) := by decide +kernel
theorem d_Mod_seeds_85 : decode b_Mod_seeds 85 = .ok (.istore 8, 2) := by decide +kernel
theorem d_Mod_seeds_87 : decode b_Mod_seeds 87 = .ok (.aload_n 0, 1) := by decide +kernel
theorem d_Mod_seeds_88 : decode b_Mod_seeds 88 = .ok (.iload 7, 2) := by decide +kernel
theorem d_Mod_seeds_90 : decode b_Mod_seeds 90 = .ok (.iload 8, 2) := by decide +kernel
theorem d_Mod_seeds_92 : decode b_Mod_seeds 92 = .ok (.invokevirtual 182, 3) := by decide +kernel
theorem d_Mod_seeds_95 : decode b_Mod_seeds 95 = .ok (.istore 9, 2) := by decide +kernel
theorem d_Mod_seeds_97 : decode b_Mod_seeds 97 = .ok (.iload 9, 2) := by decide +kernel
theorem d_Mod_seeds_99 : decode b_Mod_seeds 99 = .ok (.bipush (-9), 2) := by decide +kernel
theorem d_Mod_seeds_101 : decode b_Mod_seeds 101 = .ok (.if_icmp .eq 12, 3) := by decide +kernel
theorem d_Mod_seeds_104 : decode b_Mod_seeds 104 = .ok (.lload 4, 2) := by decide +kernel
theorem d_Mod_seeds_106 : decode b_Mod_seeds 106 = .ok (.lconst 1, 1) := by decide +kernel
theorem d_Mod_seeds_107 : decode b_Mod_seeds 107 = .ok (.iload 9, 2) := by decide +kernel
theorem d_Mod_seeds_109 : decode b_Mod_seeds 109 = .ok (.lshl, 1) := by decide +kernel
theorem d_Mod_seeds_110 : decode b_Mod_seeds 110 = .ok (.lor, 1) := by decide +kernel
theorem d_Mod_seeds_111 : decode b_Mod_seeds 111 = .ok (.lstore 4, 2) := by decide +kernel
theorem d_Mod_seeds_113 : decode b_Mod_seeds 113 = .ok (.iinc 6 1, 3) := by decide +kernel
theorem d_Mod_seeds_116 : decode b_Mod_seeds 116 = .ok (.goto (-83), 3) := by decide +kernel
theorem d_Mod_seeds_119 : decode b_Mod_seeds 119 = .ok (.lload 4, 2) := by decide +kernel
theorem d_Mod_seeds_121 : decode b_Mod_seeds 121 = .ok (.invokestatic 203, 3) := by decide +kernel
theorem d_Mod_seeds_124 : decode b_Mod_seeds 124 = .ok (.ireturn, 1) := by decide +kernel
theorem d_Mod_keep_0 : decode b_Mod_keep 0 = .ok (.iconst 0, 1) := by decide +kernel
theorem d_Mod_keep_1 : decode b_Mod_keep 1 = .ok (.istore_n 2, 1) := by decide +kernel
theorem d_Mod_keep_2 : decode b_Mod_keep 2 = .ok (.iload_n 2, 1) := by decide +kernel
theorem d_Mod_keep_3 : decode b_Mod_keep 3 = .ok (.bipush 6, 2) := by decide +kernel
theorem d_Mod_keep_5 : decode b_Mod_keep 5 = .ok (.if_icmp .ge 54, 3) := by decide +kernel
theorem d_Mod_keep_8 : decode b_Mod_keep 8 = .ok (.aload_n 1, 1) := by decide +kernel
theorem d_Mod_keep_9 : decode b_Mod_keep 9 = .ok (.iload_n 2, 1) := by decide +kernel
theorem d_Mod_keep_10 : decode b_Mod_keep 10 = .ok (.aload_n 0, 1) := by decide +kernel
theorem d_Mod_keep_11 : decode b_Mod_keep 11 = .ok (.getfield 7, 3) := by decide +kernel
theorem d_Mod_keep_14 : decode b_Mod_keep 14 = .ok (.iload_n 2, 1) := by decide +kernel
theorem d_Mod_keep_15 : decode b_Mod_keep 15 = .ok (.iaload, 1) := by decide +kernel
theorem d_Mod_keep_16 : decode b_Mod_keep 16 = .ok (.iastore, 1) := by decide +kernel
theorem d_Mod_keep_17 : decode b_Mod_keep 17 = .ok (.aload_n 1, 1) := by decide +kernel
theorem d_Mod_keep_18 : decode b_Mod_keep 18 = .ok (.bipush 6, 2) := by decide +kernel
theorem d_Mod_keep_20 : decode b_Mod_keep 20 = .ok (.iload_n 2, 1) := by decide +kernel
theorem d_Mod_keep_21 : decode b_Mod_keep 21 = .ok (.iadd, 1) := by decide +kernel
theorem d_Mod_keep_22 : decode b_Mod_keep 22 = .ok (.aload_n 0, 1) := by decide +kernel
theorem d_Mod_keep_23 : decode b_Mod_keep 23 = .ok (.getfield 13, 3) := by decide +kernel
theorem d_Mod_keep_26 : decode b_Mod_keep 26 = .ok (.iload_n 2, 1) := by decide +kernel
theorem d_Mod_keep_27 : decode b_Mod_keep 27 = .ok (.iaload, 1) := by decide +kernel
theorem d_Mod_keep_28 : decode b_Mod_keep 28 = .ok (.iastore, 1) := by decide +kernel
theorem d_Mod_keep_29 : decode b_Mod_keep 29 = .ok (.aload_n 1, 1) := by decide +kernel
theorem d_Mod_keep_30 : decode b_Mod_keep 30 = .ok (.bipush 12, 2) := by decide +kernel
theorem d_Mod_keep_32 : decode b_Mod_keep 32 = .ok (.iload_n 2, 1) := by decide +kernel
theorem d_Mod_keep_33 : decode b_Mod_keep 33 = .ok (.iadd, 1) := by decide +kernel
theorem d_Mod_keep_34 : decode b_Mod_keep 34 = .ok (.aload_n 0, 1) := by decide +kernel
theorem d_Mod_keep_35 : decode b_Mod_keep 35 = .ok (.getfield 16, 3) := by decide +kernel
theorem d_Mod_keep_38 : decode b_Mod_keep 38 = .ok (.iload_n 2, 1) := by decide +kernel
theorem d_Mod_keep_39 : decode b_Mod_keep 39 = .ok (.iaload, 1) := by decide +kernel
theorem d_Mod_keep_40 : decode b_Mod_keep 40 = .ok (.iastore, 1) := by decide +kernel
theorem d_Mod_keep_41 : decode b_Mod_keep 41 = .ok (.aload_n 1, 1) := by decide +kernel
theorem d_Mod_keep_42 : decode b_Mod_keep 42 = .ok (.bipush 18, 2) := by decide +kernel
theorem d_Mod_keep_44 : decode b_Mod_keep 44 = .ok (.iload_n 2, 1) := by decide +kernel
theorem d_Mod_keep_45 : decode b_Mod_keep 45 = .ok (.iadd, 1) := by decide +kernel
theorem d_Mod_keep_46 : decode b_Mod_keep 46 = .ok (.aload_n 0, 1) := by decide +kernel
theorem d_Mod_keep_47 : decode b_Mod_keep 47 = .ok (.getfield 19, 3) := by decide +kernel
theorem d_Mod_keep_50 : decode b_Mod_keep 50 = .ok (.iload_n 2, 1) := by decide +kernel
theorem d_Mod_keep_51 : decode b_Mod_keep 51 = .ok (.iaload, 1) := by decide +kernel
theorem d_Mod_keep_52 : decode b_Mod_keep 52 = .ok (.iastore, 1) := by decide +kernel
theorem d_Mod_keep_53 : decode b_Mod_keep 53 = .ok (.iinc 2 1, 3) := by decide +kernel
theorem d_Mod_keep_56 : decode b_Mod_keep 56 = .ok (.goto (-54), 3) := by decide +kernel
theorem d_Mod_keep_59 : decode b_Mod_keep 59 = .ok (.iconst 0, 1) := by decide +kernel
theorem d_Mod_keep_60 : decode b_Mod_keep 60 = .ok (.istore_n 2, 1) := by decide +kernel
theorem d_Mod_keep_61 : decode b_Mod_keep 61 = .ok (.iload_n 2, 1) := by decide +kernel
theorem d_Mod_keep_62 : decode b_Mod_keep 62 = .ok (.bipush 8, 2) := by decide +kernel
theorem d_Mod_keep_64 : decode b_Mod_keep 64 = .ok (.if_icmp .ge 33, 3) := by decide +kernel
theorem d_Mod_keep_67 : decode b_Mod_keep 67 = .ok (.aload_n 1, 1) := by decide +kernel
theorem d_Mod_keep_68 : decode b_Mod_keep 68 = .ok (.bipush 24, 2) := by decide +kernel
theorem d_Mod_keep_70 : decode b_Mod_keep 70 = .ok (.iload_n 2, 1) := by decide +kernel
theorem d_Mod_keep_71 : decode b_Mod_keep 71 = .ok (.iadd, 1) := by decide +kernel
theorem d_Mod_keep_72 : decode b_Mod_keep 72 = .ok (.aload_n 0, 1) := by decide +kernel
theorem d_Mod_keep_73 : decode b_Mod_keep 73 = .ok (.getfield 22, 3) := by decide +kernel
theorem d_Mod_keep_76 : decode b_Mod_keep 76 = .ok (.iload_n 2, 1) := by decide +kernel
theorem d_Mod_keep_77 : decode b_Mod_keep 77 = .ok (.iaload, 1) := by decide +kernel
theorem d_Mod_keep_78 : decode b_Mod_keep 78 = .ok (.iastore, 1) := by decide +kernel
theorem d_Mod_keep_79 : decode b_Mod_keep 79 = .ok (.aload_n 1, 1) := by decide +kernel
theorem d_Mod_keep_80 : decode b_Mod_keep 80 = .ok (.bipush 32, 2) := by decide +kernel
theorem d_Mod_keep_82 : decode b_Mod_keep 82 = .ok (.iload_n 2, 1) := by decide +kernel
theorem d_Mod_keep_83 : decode b_Mod_keep 83 = .ok (.iadd, 1) := by decide +kernel
theorem d_Mod_keep_84 : decode b_Mod_keep 84 = .ok (.aload_n 0, 1) := by decide +kernel
theorem d_Mod_keep_85 : decode b_Mod_keep 85 = .ok (.getfield 25, 3) := by decide +kernel
theorem d_Mod_keep_88 : decode b_Mod_keep 88 = .ok (.iload_n 2, 1) := by decide +kernel
theorem d_Mod_keep_89 : decode b_Mod_keep 89 = .ok (.iaload, 1) := by decide +kernel
theorem d_Mod_keep_90 : decode b_Mod_keep 90 = .ok (.iastore, 1) := by decide +kernel
theorem d_Mod_keep_91 : decode b_Mod_keep 91 = .ok (.iinc 2 1, 3) := by decide +kernel
theorem d_Mod_keep_94 : decode b_Mod_keep 94 = .ok (.goto (-33), 3) := by decide +kernel
theorem d_Mod_keep_97 : decode b_Mod_keep 97 = .ok (.aload_n 1, 1) := by decide +kernel
theorem d_Mod_keep_98 : decode b_Mod_keep 98 = .ok (.bipush 40, 2) := by decide +kernel
theorem d_Mod_keep_100 : decode b_Mod_keep 100 = .ok (.aload_n 0, 1) := by decide +kernel
theorem d_Mod_keep_101 : decode b_Mod_keep 101 = .ok (.getfield 58, 3) := by decide +kernel
theorem d_Mod_keep_104 : decode b_Mod_keep 104 = .ok (.iastore, 1) := by decide +kernel
theorem d_Mod_keep_105 : decode b_Mod_keep 105 = .ok (.aload_n 1, 1) := by decide +kernel
theorem d_Mod_keep_106 : decode b_Mod_keep 106 = .ok (.bipush 41, 2) := by decide +kernel
theorem d_Mod_keep_108 : decode b_Mod_keep 108 = .ok (.aload_n 0, 1) := by decide +kernel
theorem d_Mod_keep_109 : decode b_Mod_keep 109 = .ok (.getfield 66, 3) := by decide +kernel
theorem d_Mod_keep_112 : decode b_Mod_keep 112 = .ok (.iastore, 1) := by decide +kernel
theorem d_Mod_keep_113 : decode b_Mod_keep 113 = .ok (.return_, 1) := by decide +kernel
theorem d_Mod_again_0 : decode b_Mod_again 0 = .ok (.iconst 0, 1) := by decide +kernel
theorem d_Mod_again_1 : decode b_Mod_again 1 = .ok (.istore_n 2, 1) := by decide +kernel
theorem d_Mod_again_2 : decode b_Mod_again 2 = .ok (.iload_n 2, 1) := by decide +kernel
theorem d_Mod_again_3 : decode b_Mod_again 3 = .ok (.bipush 6, 2) := by decide +kernel
theorem d_Mod_again_5 : decode b_Mod_again 5 = .ok (.if_icmp .ge 54, 3) := by decide +kernel
theorem d_Mod_again_8 : decode b_Mod_again 8 = .ok (.aload_n 0, 1) := by decide +kernel
theorem d_Mod_again_9 : decode b_Mod_again 9 = .ok (.getfield 7, 3) := by decide +kernel
theorem d_Mod_again_12 : decode b_Mod_again 12 = .ok (.iload_n 2, 1) := by decide +kernel
theorem d_Mod_again_13 : decode b_Mod_again 13 = .ok (.aload_n 1, 1) := by decide +kernel
theorem d_Mod_again_14 : decode b_Mod_again 14 = .ok (.iload_n 2, 1) := by decide +kernel
theorem d_Mod_again_15 : decode b_Mod_again 15 = .ok (.iaload, 1) := by decide +kernel
theorem d_Mod_again_16 : decode b_Mod_again 16 = .ok (.iastore, 1) := by decide +kernel
theorem d_Mod_again_17 : decode b_Mod_again 17 = .ok (.aload_n 0, 1) := by decide +kernel
theorem d_Mod_again_18 : decode b_Mod_again 18 = .ok (.getfield 13, 3) := by decide +kernel
theorem d_Mod_again_21 : decode b_Mod_again 21 = .ok (.iload_n 2, 1) := by decide +kernel
theorem d_Mod_again_22 : decode b_Mod_again 22 = .ok (.aload_n 1, 1) := by decide +kernel
theorem d_Mod_again_23 : decode b_Mod_again 23 = .ok (.bipush 6, 2) := by decide +kernel
theorem d_Mod_again_25 : decode b_Mod_again 25 = .ok (.iload_n 2, 1) := by decide +kernel
theorem d_Mod_again_26 : decode b_Mod_again 26 = .ok (.iadd, 1) := by decide +kernel
theorem d_Mod_again_27 : decode b_Mod_again 27 = .ok (.iaload, 1) := by decide +kernel
theorem d_Mod_again_28 : decode b_Mod_again 28 = .ok (.iastore, 1) := by decide +kernel
theorem d_Mod_again_29 : decode b_Mod_again 29 = .ok (.aload_n 0, 1) := by decide +kernel
theorem d_Mod_again_30 : decode b_Mod_again 30 = .ok (.getfield 16, 3) := by decide +kernel
theorem d_Mod_again_33 : decode b_Mod_again 33 = .ok (.iload_n 2, 1) := by decide +kernel
theorem d_Mod_again_34 : decode b_Mod_again 34 = .ok (.aload_n 1, 1) := by decide +kernel
theorem d_Mod_again_35 : decode b_Mod_again 35 = .ok (.bipush 12, 2) := by decide +kernel
theorem d_Mod_again_37 : decode b_Mod_again 37 = .ok (.iload_n 2, 1) := by decide +kernel
theorem d_Mod_again_38 : decode b_Mod_again 38 = .ok (.iadd, 1) := by decide +kernel
theorem d_Mod_again_39 : decode b_Mod_again 39 = .ok (.iaload, 1) := by decide +kernel
theorem d_Mod_again_40 : decode b_Mod_again 40 = .ok (.iastore, 1) := by decide +kernel
theorem d_Mod_again_41 : decode b_Mod_again 41 = .ok (.aload_n 0, 1) := by decide +kernel
theorem d_Mod_again_42 : decode b_Mod_again 42 = .ok (.getfield 19, 3) := by decide +kernel
theorem d_Mod_again_45 : decode b_Mod_again 45 = .ok (.iload_n 2, 1) := by decide +kernel
theorem d_Mod_again_46 : decode b_Mod_again 46 = .ok (.aload_n 1, 1) := by decide +kernel
theorem d_Mod_again_47 : decode b_Mod_again 47 = .ok (.bipush 18, 2) := by decide +kernel
theorem d_Mod_again_49 : decode b_Mod_again 49 = .ok (.iload_n 2, 1) := by decide +kernel
theorem d_Mod_again_50 : decode b_Mod_again 50 = .ok (.iadd, 1) := by decide +kernel
theorem d_Mod_again_51 : decode b_Mod_again 51 = .ok (.iaload, 1) := by decide +kernel
theorem d_Mod_again_52 : decode b_Mod_again 52 = .ok (.iastore, 1) := by decide +kernel
theorem d_Mod_again_53 : decode b_Mod_again 53 = .ok (.iinc 2 1, 3) := by decide +kernel
theorem d_Mod_again_56 : decode b_Mod_again 56 = .ok (.goto (-54), 3) := by decide +kernel
theorem d_Mod_again_59 : decode b_Mod_again 59 = .ok (.iconst 0, 1) := by decide +kernel
theorem d_Mod_again_60 : decode b_Mod_again 60 = .ok (.istore_n 2, 1) := by decide +kernel
theorem d_Mod_again_61 : decode b_Mod_again 61 = .ok (.iload_n 2, 1) := by decide +kernel
theorem d_Mod_again_62 : decode b_Mod_again 62 = .ok (.bipush 8, 2) := by decide +kernel
theorem d_Mod_again_64 : decode b_Mod_again 64 = .ok (.if_icmp .ge 33, 3) := by decide +kernel
theorem d_Mod_again_67 : decode b_Mod_again 67 = .ok (.aload_n 0, 1) := by decide +kernel
theorem d_Mod_again_68 : decode b_Mod_again 68 = .ok (.getfield 22, 3) := by decide +kernel
theorem d_Mod_again_71 : decode b_Mod_again 71 = .ok (.iload_n 2, 1) := by decide +kernel
theorem d_Mod_again_72 : decode b_Mod_again 72 = .ok (.aload_n 1, 1) := by decide +kernel
theorem d_Mod_again_73 : decode b_Mod_again 73 = .ok (.bipush 24, 2) := by decide +kernel
theorem d_Mod_again_75 : decode b_Mod_again 75 = .ok (.iload_n 2, 1) := by decide +kernel
theorem d_Mod_again_76 : decode b_Mod_again 76 = .ok (.iadd, 1) := by decide +kernel
theorem d_Mod_again_77 : decode b_Mod_again 77 = .ok (.iaload, 1) := by decide +kernel
theorem d_Mod_again_78 : decode b_Mod_again 78 = .ok (.iastore, 1) := by decide +kernel
theorem d_Mod_again_79 : decode b_Mod_again 79 = .ok (.aload_n 0, 1) := by decide +kernel
theorem d_Mod_again_80 : decode b_Mod_again 80 = .ok (.getfield 25, 3) := by decide +kernel
theorem d_Mod_again_83 : decode b_Mod_again 83 = .ok (.iload_n 2, 1) := by decide +kernel
theorem d_Mod_again_84 : decode b_Mod_again 84 = .ok (.aload_n 1, 1) := by decide +kernel
theorem d_Mod_again_85 : decode b_Mod_again 85 = .ok (.bipush 32, 2) := by decide +kernel
theorem d_Mod_again_87 : decode b_Mod_again 87 = .ok (.iload_n 2, 1) := by decide +kernel
theorem d_Mod_again_88 : decode b_Mod_again 88 = .ok (.iadd, 1) := by decide +kernel
theorem d_Mod_again_89 : decode b_Mod_again 89 = .ok (.iaload, 1) := by decide +kernel
theorem d_Mod_again_90 : decode b_Mod_again 90 = .ok (.iastore, 1) := by decide +kernel
theorem d_Mod_again_91 : decode b_Mod_again 91 = .ok (.iinc 2 1, 3) := by decide +kernel
theorem d_Mod_again_94 : decode b_Mod_again 94 = .ok (.goto (-33), 3) := by decide +kernel
theorem d_Mod_again_97 : decode b_Mod_again 97 = .ok (.aload_n 0, 1) := by decide +kernel
theorem d_Mod_again_98 : decode b_Mod_again 98 = .ok (.aload_n 1, 1) := by decide +kernel
theorem d_Mod_again_99 : decode b_Mod_again 99 = .ok (.bipush 40, 2) := by decide +kernel
theorem d_Mod_again_101 : decode b_Mod_again 101 = .ok (.iaload, 1) := by decide +kernel
theorem d_Mod_again_102 : decode b_Mod_again 102 = .ok (.putfield 58, 3) := by decide +kernel
theorem d_Mod_again_105 : decode b_Mod_again 105 = .ok (.aload_n 0, 1) := by decide +kernel
theorem d_Mod_again_106 : decode b_Mod_again 106 = .ok (.aload_n 1, 1) := by decide +kernel
theorem d_Mod_again_107 : decode b_Mod_again 107 = .ok (.bipush 41, 2) := by decide +kernel
theorem d_Mod_again_109 : decode b_Mod_again 109 = .ok (.iaload, 1) := by decide +kernel
theorem d_Mod_again_110 : decode b_Mod_again 110 = .ok (.putfield 66, 3) := by decide +kernel
theorem d_Mod_again_113 : decode b_Mod_again 113 = .ok (.return_, 1) := by decide +kernel
theorem d_Mod_image_0 : decode b_Mod_image 0 = .ok (.aload_n 0, 1) := by decide +kernel
theorem d_Mod_image_1 : decode b_Mod_image 1 = .ok (.iconst 1, 1) := by decide +kernel
theorem d_Mod_image_2 : decode b_Mod_image 2 = .ok (.putfield 208, 3) := by decide +kernel
theorem d_Mod_image_5 : decode b_Mod_image 5 = .ok (.aload_n 0, 1) := by decide +kernel
theorem d_Mod_image_6 : decode b_Mod_image 6 = .ok (.aload_n 0, 1) := by decide +kernel
theorem d_Mod_image_7 : decode b_Mod_image 7 = .ok (.getfield 40, 3) := by decide +kernel
theorem d_Mod_image_10 : decode b_Mod_image 10 = .ok (.invokevirtual 101, 3) := by decide +kernel
theorem d_Mod_image_13 : decode b_Mod_image 13 = .ok (.aload_n 0, 1) := by decide +kernel
theorem d_Mod_image_14 : decode b_Mod_image 14 = .ok (.getfield 58, 3) := by decide +kernel
theorem d_Mod_image_17 : decode b_Mod_image 17 = .ok (.ireturn, 1) := by decide +kernel
theorem d_Mod_on_0 : decode b_Mod_on 0 = .ok (.aload_n 0, 1) := by decide +kernel
theorem d_Mod_on_1 : decode b_Mod_on 1 = .ok (.getfield 208, 3) := by decide +kernel
theorem d_Mod_on_4 : decode b_Mod_on 4 = .ok (.ifCond .ne 10, 3) := by decide +kernel
theorem d_Mod_on_7 : decode b_Mod_on 7 = .ok (.aload_n 0, 1) := by decide +kernel
theorem d_Mod_on_8 : decode b_Mod_on 8 = .ok (.bipush (-3), 2) := by decide +kernel
theorem d_Mod_on_10 : decode b_Mod_on 10 = .ok (.invokevirtual 54, 3) := by decide +kernel
theorem d_Mod_on_13 : decode b_Mod_on 13 = .ok (.ireturn, 1) := by decide +kernel
theorem d_Mod_on_14 : decode b_Mod_on 14 = .ok (.aload_n 0, 1) := by decide +kernel
theorem d_Mod_on_15 : decode b_Mod_on 15 = .ok (.aload_n 0, 1) := by decide +kernel
theorem d_Mod_on_16 : decode b_Mod_on 16 = .ok (.getfield 40, 3) := by decide +kernel
theorem d_Mod_on_19 : decode b_Mod_on 19 = .ok (.invokevirtual 105, 3) := by decide +kernel
theorem d_Mod_on_22 : decode b_Mod_on 22 = .ok (.aload_n 0, 1) := by decide +kernel
theorem d_Mod_on_23 : decode b_Mod_on 23 = .ok (.getfield 58, 3) := by decide +kernel
theorem d_Mod_on_26 : decode b_Mod_on 26 = .ok (.ireturn, 1) := by decide +kernel
theorem d_Mod_count_0 : decode b_Mod_count 0 = .ok (.iload_n 1, 1) := by decide +kernel
theorem d_Mod_count_1 : decode b_Mod_count 1 = .ok (.tableswitch 51 0 3 #[31, 36, 41, 46], 31) := by decide +kernel
theorem d_Mod_count_32 : decode b_Mod_count 32 = .ok (.aload_n 0, 1) := by decide +kernel
theorem d_Mod_count_33 : decode b_Mod_count 33 = .ok (.getfield 58, 3) := by decide +kernel
theorem d_Mod_count_36 : decode b_Mod_count 36 = .ok (.ireturn, 1) := by decide +kernel
theorem d_Mod_count_37 : decode b_Mod_count 37 = .ok (.aload_n 0, 1) := by decide +kernel
theorem d_Mod_count_38 : decode b_Mod_count 38 = .ok (.getfield 66, 3) := by decide +kernel
theorem d_Mod_count_41 : decode b_Mod_count 41 = .ok (.ireturn, 1) := by decide +kernel
theorem d_Mod_count_42 : decode b_Mod_count 42 = .ok (.aload_n 0, 1) := by decide +kernel
theorem d_Mod_count_43 : decode b_Mod_count 43 = .ok (.getfield 197, 3) := by decide +kernel
theorem d_Mod_count_46 : decode b_Mod_count 46 = .ok (.ireturn, 1) := by decide +kernel
theorem d_Mod_count_47 : decode b_Mod_count 47 = .ok (.aload_n 0, 1) := by decide +kernel
theorem d_Mod_count_48 : decode b_Mod_count 48 = .ok (.getfield 69, 3) := by decide +kernel
theorem d_Mod_count_51 : decode b_Mod_count 51 = .ok (.ireturn, 1) := by decide +kernel
theorem d_Mod_count_52 : decode b_Mod_count 52 = .ok (.iload_n 1, 1) := by decide +kernel
theorem d_Mod_count_53 : decode b_Mod_count 53 = .ok (.bipush 11, 2) := by decide +kernel
theorem d_Mod_count_55 : decode b_Mod_count 55 = .ok (.bipush 16, 2) := by decide +kernel
theorem d_Mod_count_57 : decode b_Mod_count 57 = .ok (.invokestatic 62, 3) := by decide +kernel
theorem d_Mod_count_60 : decode b_Mod_count 60 = .ok (.ifCond .eq 15, 3) := by decide +kernel
theorem d_Mod_count_63 : decode b_Mod_count 63 = .ok (.aload_n 0, 1) := by decide +kernel
theorem d_Mod_count_64 : decode b_Mod_count 64 = .ok (.getfield 37, 3) := by decide +kernel
theorem d_Mod_count_67 : decode b_Mod_count 67 = .ok (.iload_n 1, 1) := by decide +kernel
theorem d_Mod_count_68 : decode b_Mod_count 68 = .ok (.bipush 10, 2) := by decide +kernel
theorem d_Mod_count_70 : decode b_Mod_count 70 = .ok (.isub, 1) := by decide +kernel
theorem d_Mod_count_71 : decode b_Mod_count 71 = .ok (.iaload, 1) := by decide +kernel
theorem d_Mod_count_72 : decode b_Mod_count 72 = .ok (.goto 5, 3) := by decide +kernel
theorem d_Mod_count_75 : decode b_Mod_count 75 = .ok (.bipush (-9), 2) := by decide +kernel
theorem d_Mod_count_77 : decode b_Mod_count 77 = .ok (.ireturn, 1) := by decide +kernel
theorem d_Int_bitCount_0 : decode b_Int_bitCount 0 = .ok (.iload_n 0, 1) := by decide +kernel
theorem d_Int_bitCount_1 : decode b_Int_bitCount 1 = .ok (.iload_n 0, 1) := by decide +kernel
theorem d_Int_bitCount_2 : decode b_Int_bitCount 2 = .ok (.iconst 1, 1) := by decide +kernel
theorem d_Int_bitCount_3 : decode b_Int_bitCount 3 = .ok (.iushr, 1) := by decide +kernel
theorem d_Int_bitCount_4 : decode b_Int_bitCount 4 = .ok (.ldc_w 265, 3) := by decide +kernel
theorem d_Int_bitCount_7 : decode b_Int_bitCount 7 = .ok (.iand, 1) := by decide +kernel
theorem d_Int_bitCount_8 : decode b_Int_bitCount 8 = .ok (.isub, 1) := by decide +kernel
theorem d_Int_bitCount_9 : decode b_Int_bitCount 9 = .ok (.istore_n 0, 1) := by decide +kernel
theorem d_Int_bitCount_10 : decode b_Int_bitCount 10 = .ok (.iload_n 0, 1) := by decide +kernel
theorem d_Int_bitCount_11 : decode b_Int_bitCount 11 = .ok (.ldc_w 266, 3) := by decide +kernel
theorem d_Int_bitCount_14 : decode b_Int_bitCount 14 = .ok (.iand, 1) := by decide +kernel
theorem d_Int_bitCount_15 : decode b_Int_bitCount 15 = .ok (.iload_n 0, 1) := by decide +kernel
theorem d_Int_bitCount_16 : decode b_Int_bitCount 16 = .ok (.iconst 2, 1) := by decide +kernel
theorem d_Int_bitCount_17 : decode b_Int_bitCount 17 = .ok (.iushr, 1) := by decide +kernel
theorem d_Int_bitCount_18 : decode b_Int_bitCount 18 = .ok (.ldc_w 266, 3) := by decide +kernel
theorem d_Int_bitCount_21 : decode b_Int_bitCount 21 = .ok (.iand, 1) := by decide +kernel
theorem d_Int_bitCount_22 : decode b_Int_bitCount 22 = .ok (.iadd, 1) := by decide +kernel
theorem d_Int_bitCount_23 : decode b_Int_bitCount 23 = .ok (.istore_n 0, 1) := by decide +kernel
theorem d_Int_bitCount_24 : decode b_Int_bitCount 24 = .ok (.iload_n 0, 1) := by decide +kernel
theorem d_Int_bitCount_25 : decode b_Int_bitCount 25 = .ok (.iload_n 0, 1) := by decide +kernel
theorem d_Int_bitCount_26 : decode b_Int_bitCount 26 = .ok (.iconst 4, 1) := by decide +kernel
theorem d_Int_bitCount_27 : decode b_Int_bitCount 27 = .ok (.iushr, 1) := by decide +kernel
theorem d_Int_bitCount_28 : decode b_Int_bitCount 28 = .ok (.iadd, 1) := by decide +kernel
theorem d_Int_bitCount_29 : decode b_Int_bitCount 29 = .ok (.ldc_w 267, 3) := by decide +kernel
theorem d_Int_bitCount_32 : decode b_Int_bitCount 32 = .ok (.iand, 1) := by decide +kernel
theorem d_Int_bitCount_33 : decode b_Int_bitCount 33 = .ok (.istore_n 0, 1) := by decide +kernel
theorem d_Int_bitCount_34 : decode b_Int_bitCount 34 = .ok (.iload_n 0, 1) := by decide +kernel
theorem d_Int_bitCount_35 : decode b_Int_bitCount 35 = .ok (.iload_n 0, 1) := by decide +kernel
theorem d_Int_bitCount_36 : decode b_Int_bitCount 36 = .ok (.bipush 8, 2) := by decide +kernel
theorem d_Int_bitCount_38 : decode b_Int_bitCount 38 = .ok (.iushr, 1) := by decide +kernel
theorem d_Int_bitCount_39 : decode b_Int_bitCount 39 = .ok (.iadd, 1) := by decide +kernel
theorem d_Int_bitCount_40 : decode b_Int_bitCount 40 = .ok (.istore_n 0, 1) := by decide +kernel
theorem d_Int_bitCount_41 : decode b_Int_bitCount 41 = .ok (.iload_n 0, 1) := by decide +kernel
theorem d_Int_bitCount_42 : decode b_Int_bitCount 42 = .ok (.iload_n 0, 1) := by decide +kernel
theorem d_Int_bitCount_43 : decode b_Int_bitCount 43 = .ok (.bipush 16, 2) := by decide +kernel
theorem d_Int_bitCount_45 : decode b_Int_bitCount 45 = .ok (.iushr, 1) := by decide +kernel
theorem d_Int_bitCount_46 : decode b_Int_bitCount 46 = .ok (.iadd, 1) := by decide +kernel
theorem d_Int_bitCount_47 : decode b_Int_bitCount 47 = .ok (.istore_n 0, 1) := by decide +kernel
theorem d_Int_bitCount_48 : decode b_Int_bitCount 48 = .ok (.iload_n 0, 1) := by decide +kernel
theorem d_Int_bitCount_49 : decode b_Int_bitCount 49 = .ok (.bipush 63, 2) := by decide +kernel
theorem d_Int_bitCount_51 : decode b_Int_bitCount 51 = .ok (.iand, 1) := by decide +kernel
theorem d_Int_bitCount_52 : decode b_Int_bitCount 52 = .ok (.ireturn, 1) := by decide +kernel
theorem d_Lng_bitCount_0 : decode b_Lng_bitCount 0 = .ok (.lload_n 0, 1) := by decide +kernel
theorem d_Lng_bitCount_1 : decode b_Lng_bitCount 1 = .ok (.lload_n 0, 1) := by decide +kernel
theorem d_Lng_bitCount_2 : decode b_Lng_bitCount 2 = .ok (.iconst 1, 1) := by decide +kernel
theorem d_Lng_bitCount_3 : decode b_Lng_bitCount 3 = .ok (.lushr, 1) := by decide +kernel
theorem d_Lng_bitCount_4 : decode b_Lng_bitCount 4 = .ok (.ldc2_w 314, 3) := by decide +kernel
theorem d_Lng_bitCount_7 : decode b_Lng_bitCount 7 = .ok (.land, 1) := by decide +kernel
theorem d_Lng_bitCount_8 : decode b_Lng_bitCount 8 = .ok (.lsub, 1) := by decide +kernel
theorem d_Lng_bitCount_9 : decode b_Lng_bitCount 9 = .ok (.lstore_n 0, 1) := by decide +kernel
theorem d_Lng_bitCount_10 : decode b_Lng_bitCount 10 = .ok (.lload_n 0, 1) := by decide +kernel
theorem d_Lng_bitCount_11 : decode b_Lng_bitCount 11 = .ok (.ldc2_w 316, 3) := by decide +kernel
theorem d_Lng_bitCount_14 : decode b_Lng_bitCount 14 = .ok (.land, 1) := by decide +kernel
theorem d_Lng_bitCount_15 : decode b_Lng_bitCount 15 = .ok (.lload_n 0, 1) := by decide +kernel
theorem d_Lng_bitCount_16 : decode b_Lng_bitCount 16 = .ok (.iconst 2, 1) := by decide +kernel
theorem d_Lng_bitCount_17 : decode b_Lng_bitCount 17 = .ok (.lushr, 1) := by decide +kernel
theorem d_Lng_bitCount_18 : decode b_Lng_bitCount 18 = .ok (.ldc2_w 316, 3) := by decide +kernel
theorem d_Lng_bitCount_21 : decode b_Lng_bitCount 21 = .ok (.land, 1) := by decide +kernel
theorem d_Lng_bitCount_22 : decode b_Lng_bitCount 22 = .ok (.ladd, 1) := by decide +kernel
theorem d_Lng_bitCount_23 : decode b_Lng_bitCount 23 = .ok (.lstore_n 0, 1) := by decide +kernel
theorem d_Lng_bitCount_24 : decode b_Lng_bitCount 24 = .ok (.lload_n 0, 1) := by decide +kernel
theorem d_Lng_bitCount_25 : decode b_Lng_bitCount 25 = .ok (.lload_n 0, 1) := by decide +kernel
theorem d_Lng_bitCount_26 : decode b_Lng_bitCount 26 = .ok (.iconst 4, 1) := by decide +kernel
theorem d_Lng_bitCount_27 : decode b_Lng_bitCount 27 = .ok (.lushr, 1) := by decide +kernel
theorem d_Lng_bitCount_28 : decode b_Lng_bitCount 28 = .ok (.ladd, 1) := by decide +kernel
theorem d_Lng_bitCount_29 : decode b_Lng_bitCount 29 = .ok (.ldc2_w 318, 3) := by decide +kernel
theorem d_Lng_bitCount_32 : decode b_Lng_bitCount 32 = .ok (.land, 1) := by decide +kernel
theorem d_Lng_bitCount_33 : decode b_Lng_bitCount 33 = .ok (.lstore_n 0, 1) := by decide +kernel
theorem d_Lng_bitCount_34 : decode b_Lng_bitCount 34 = .ok (.lload_n 0, 1) := by decide +kernel
theorem d_Lng_bitCount_35 : decode b_Lng_bitCount 35 = .ok (.lload_n 0, 1) := by decide +kernel
theorem d_Lng_bitCount_36 : decode b_Lng_bitCount 36 = .ok (.bipush 8, 2) := by decide +kernel
theorem d_Lng_bitCount_38 : decode b_Lng_bitCount 38 = .ok (.lushr, 1) := by decide +kernel
theorem d_Lng_bitCount_39 : decode b_Lng_bitCount 39 = .ok (.ladd, 1) := by decide +kernel
theorem d_Lng_bitCount_40 : decode b_Lng_bitCount 40 = .ok (.lstore_n 0, 1) := by decide +kernel
theorem d_Lng_bitCount_41 : decode b_Lng_bitCount 41 = .ok (.lload_n 0, 1) := by decide +kernel
theorem d_Lng_bitCount_42 : decode b_Lng_bitCount 42 = .ok (.lload_n 0, 1) := by decide +kernel
theorem d_Lng_bitCount_43 : decode b_Lng_bitCount 43 = .ok (.bipush 16, 2) := by decide +kernel
theorem d_Lng_bitCount_45 : decode b_Lng_bitCount 45 = .ok (.lushr, 1) := by decide +kernel
theorem d_Lng_bitCount_46 : decode b_Lng_bitCount 46 = .ok (.ladd, 1) := by decide +kernel
theorem d_Lng_bitCount_47 : decode b_Lng_bitCount 47 = .ok (.lstore_n 0, 1) := by decide +kernel
theorem d_Lng_bitCount_48 : decode b_Lng_bitCount 48 = .ok (.lload_n 0, 1) := by decide +kernel
theorem d_Lng_bitCount_49 : decode b_Lng_bitCount 49 = .ok (.lload_n 0, 1) := by decide +kernel
theorem d_Lng_bitCount_50 : decode b_Lng_bitCount 50 = .ok (.bipush 32, 2) := by decide +kernel
theorem d_Lng_bitCount_52 : decode b_Lng_bitCount 52 = .ok (.lushr, 1) := by decide +kernel
theorem d_Lng_bitCount_53 : decode b_Lng_bitCount 53 = .ok (.ladd, 1) := by decide +kernel
theorem d_Lng_bitCount_54 : decode b_Lng_bitCount 54 = .ok (.lstore_n 0, 1) := by decide +kernel
theorem d_Lng_bitCount_55 : decode b_Lng_bitCount 55 = .ok (.lload_n 0, 1) := by decide +kernel
theorem d_Lng_bitCount_56 : decode b_Lng_bitCount 56 = .ok (.l2i, 1) := by decide +kernel
theorem d_Lng_bitCount_57 : decode b_Lng_bitCount 57 = .ok (.bipush 127, 2) := by decide +kernel
theorem d_Lng_bitCount_59 : decode b_Lng_bitCount 59 = .ok (.iand, 1) := by decide +kernel
theorem d_Lng_bitCount_60 : decode b_Lng_bitCount 60 = .ok (.ireturn, 1) := by decide +kernel
theorem d_Str_length_0 : decode b_Str_length 0 = .ok (.aload_n 0, 1) := by decide +kernel
theorem d_Str_length_1 : decode b_Str_length 1 = .ok (.getfield 9, 3) := by decide +kernel
theorem d_Str_length_4 : decode b_Str_length 4 = .ok (.arraylength, 1) := by decide +kernel
theorem d_Str_length_5 : decode b_Str_length 5 = .ok (.aload_n 0, 1) := by decide +kernel
theorem d_Str_length_6 : decode b_Str_length 6 = .ok (.invokevirtual 335, 3) := by decide +kernel
theorem d_Str_length_9 : decode b_Str_length 9 = .ok (.ishr, 1) := by decide +kernel
theorem d_Str_length_10 : decode b_Str_length 10 = .ok (.ireturn, 1) := by decide +kernel
theorem d_Str_indexOf1_0 : decode b_Str_indexOf1 0 = .ok (.aload_n 0, 1) := by decide +kernel
theorem d_Str_indexOf1_1 : decode b_Str_indexOf1 1 = .ok (.iload_n 1, 1) := by decide +kernel
theorem d_Str_indexOf1_2 : decode b_Str_indexOf1 2 = .ok (.iconst 0, 1) := by decide +kernel
theorem d_Str_indexOf1_3 : decode b_Str_indexOf1 3 = .ok (.invokevirtual 633, 3) := by decide +kernel
theorem d_Str_indexOf1_6 : decode b_Str_indexOf1 6 = .ok (.ireturn, 1) := by decide +kernel
theorem d_Str_indexOf2_0 : decode b_Str_indexOf2 0 = .ok (.aload_n 0, 1) := by decide +kernel
theorem d_Str_indexOf2_1 : decode b_Str_indexOf2 1 = .ok (.invokevirtual 492, 3) := by decide +kernel
theorem d_Str_indexOf2_4 : decode b_Str_indexOf2 4 = .ok (.ifCond .eq 19, 3) := by decide +kernel
theorem d_Str_indexOf2_7 : decode b_Str_indexOf2 7 = .ok (.aload_n 0, 1) := by decide +kernel
theorem d_Str_indexOf2_8 : decode b_Str_indexOf2 8 = .ok (.getfield 9, 3) := by decide +kernel
theorem d_Str_indexOf2_11 : decode b_Str_indexOf2 11 = .ok (.iload_n 1, 1) := by decide +kernel
theorem d_Str_indexOf2_12 : decode b_Str_indexOf2 12 = .ok (.iload_n 2, 1) := by decide +kernel
theorem d_Str_indexOf2_13 : decode b_Str_indexOf2 13 = .ok (.aload_n 0, 1) := by decide +kernel
theorem d_Str_indexOf2_14 : decode b_Str_indexOf2 14 = .ok (.invokevirtual 505, 3) := by decide +kernel
theorem d_Str_indexOf2_17 : decode b_Str_indexOf2 17 = .ok (.invokestatic 637, 3) := by decide +kernel
theorem d_Str_indexOf2_20 : decode b_Str_indexOf2 20 = .ok (.goto 16, 3) := by decide +kernel
theorem d_Str_indexOf2_23 : decode b_Str_indexOf2 23 = .ok (.aload_n 0, 1) := by decide +kernel
theorem d_Str_indexOf2_24 : decode b_Str_indexOf2 24 = .ok (.getfield 9, 3) := by decide +kernel
theorem d_Str_indexOf2_27 : decode b_Str_indexOf2 27 = .ok (.iload_n 1, 1) := by decide +kernel
theorem d_Str_indexOf2_28 : decode b_Str_indexOf2 28 = .ok (.iload_n 2, 1) := by decide +kernel
theorem d_Str_indexOf2_29 : decode b_Str_indexOf2 29 = .ok (.aload_n 0, 1) := by decide +kernel
theorem d_Str_indexOf2_30 : decode b_Str_indexOf2 30 = .ok (.invokevirtual 505, 3) := by decide +kernel
theorem d_Str_indexOf2_33 : decode b_Str_indexOf2 33 = .ok (.invokestatic 640, 3) := by decide +kernel
theorem d_Str_indexOf2_36 : decode b_Str_indexOf2 36 = .ok (.ireturn, 1) := by decide +kernel
theorem d_Str_coder_0 : decode b_Str_coder 0 = .ok (.getstatic 38, 3) := by decide +kernel
theorem d_Str_coder_3 : decode b_Str_coder 3 = .ok (.ifCond .eq 10, 3) := by decide +kernel
theorem d_Str_coder_6 : decode b_Str_coder 6 = .ok (.aload_n 0, 1) := by decide +kernel
theorem d_Str_coder_7 : decode b_Str_coder 7 = .ok (.getfield 15, 3) := by decide +kernel
theorem d_Str_coder_10 : decode b_Str_coder 10 = .ok (.goto 4, 3) := by decide +kernel
theorem d_Str_coder_13 : decode b_Str_coder 13 = .ok (.iconst 1, 1) := by decide +kernel
theorem d_Str_coder_14 : decode b_Str_coder 14 = .ok (.ireturn, 1) := by decide +kernel
theorem d_Str_isLatin1_0 : decode b_Str_isLatin1 0 = .ok (.getstatic 38, 3) := by decide +kernel
theorem d_Str_isLatin1_3 : decode b_Str_isLatin1 3 = .ok (.ifCond .eq 14, 3) := by decide +kernel
theorem d_Str_isLatin1_6 : decode b_Str_isLatin1 6 = .ok (.aload_n 0, 1) := by decide +kernel
theorem d_Str_isLatin1_7 : decode b_Str_isLatin1 7 = .ok (.getfield 15, 3) := by decide +kernel
theorem d_Str_isLatin1_10 : decode b_Str_isLatin1 10 = .ok (.ifCond .ne 7, 3) := by decide +kernel
theorem d_Str_isLatin1_13 : decode b_Str_isLatin1 13 = .ok (.iconst 1, 1) := by decide +kernel
theorem d_Str_isLatin1_14 : decode b_Str_isLatin1 14 = .ok (.goto 4, 3) := by decide +kernel
theorem d_Str_isLatin1_17 : decode b_Str_isLatin1 17 = .ok (.iconst 0, 1) := by decide +kernel
theorem d_Str_isLatin1_18 : decode b_Str_isLatin1 18 = .ok (.ireturn, 1) := by decide +kernel
theorem d_Lat_canEncode_0 : decode b_Lat_canEncode 0 = .ok (.iload_n 0, 1) := by decide +kernel
theorem d_Lat_canEncode_1 : decode b_Lat_canEncode 1 = .ok (.ifCond .lt 14, 3) := by decide +kernel
theorem d_Lat_canEncode_4 : decode b_Lat_canEncode 4 = .ok (.iload_n 0, 1) := by decide +kernel
theorem d_Lat_canEncode_5 : decode b_Lat_canEncode 5 = .ok (.sipush 255, 3) := by decide +kernel
theorem d_Lat_canEncode_8 : decode b_Lat_canEncode 8 = .ok (.if_icmp .gt 7, 3) := by decide +kernel
theorem d_Lat_canEncode_11 : decode b_Lat_canEncode 11 = .ok (.iconst 1, 1) := by decide +kernel
theorem d_Lat_canEncode_12 : decode b_Lat_canEncode 12 = .ok (.goto 4, 3) := by decide +kernel
theorem d_Lat_canEncode_15 : decode b_Lat_canEncode 15 = .ok (.iconst 0, 1) := by decide +kernel
theorem d_Lat_canEncode_16 : decode b_Lat_canEncode 16 = .ok (.ireturn, 1) := by decide +kernel
theorem d_Lat_indexOf_0 : decode b_Lat_indexOf 0 = .ok (.iload_n 1, 1) := by decide +kernel
theorem d_Lat_indexOf_1 : decode b_Lat_indexOf 1 = .ok (.invokestatic 88, 3) := by decide +kernel
theorem d_Lat_indexOf_4 : decode b_Lat_indexOf 4 = .ok (.ifCond .ne 5, 3) := by decide +kernel
theorem d_Lat_indexOf_7 : decode b_Lat_indexOf 7 = .ok (.iconst (-1), 1) := by decide +kernel
theorem d_Lat_indexOf_8 : decode b_Lat_indexOf 8 = .ok (.ireturn, 1) := by decide +kernel
theorem d_Lat_indexOf_9 : decode b_Lat_indexOf 9 = .ok (.iload_n 2, 1) := by decide +kernel
theorem d_Lat_indexOf_10 : decode b_Lat_indexOf 10 = .ok (.iconst 0, 1) := by decide +kernel
theorem d_Lat_indexOf_11 : decode b_Lat_indexOf 11 = .ok (.invokestatic 92, 3) := by decide +kernel
theorem d_Lat_indexOf_14 : decode b_Lat_indexOf 14 = .ok (.istore_n 2, 1) := by decide +kernel
theorem d_Lat_indexOf_15 : decode b_Lat_indexOf 15 = .ok (.iload_n 3, 1) := by decide +kernel
theorem d_Lat_indexOf_16 : decode b_Lat_indexOf 16 = .ok (.aload_n 0, 1) := by decide +kernel
theorem d_Lat_indexOf_17 : decode b_Lat_indexOf 17 = .ok (.arraylength, 1) := by decide +kernel
theorem d_Lat_indexOf_18 : decode b_Lat_indexOf 18 = .ok (.invokestatic 38, 3) := by decide +kernel
theorem d_Lat_indexOf_21 : decode b_Lat_indexOf 21 = .ok (.istore_n 3, 1) := by decide +kernel
theorem d_Lat_indexOf_22 : decode b_Lat_indexOf 22 = .ok (.iload_n 2, 1) := by decide +kernel
theorem d_Lat_indexOf_23 : decode b_Lat_indexOf 23 = .ok (.iload_n 3, 1) := by decide +kernel
theorem d_Lat_indexOf_24 : decode b_Lat_indexOf 24 = .ok (.if_icmp .lt 5, 3) := by decide +kernel
theorem d_Lat_indexOf_27 : decode b_Lat_indexOf 27 = .ok (.iconst (-1), 1) := by decide +kernel
theorem d_Lat_indexOf_28 : decode b_Lat_indexOf 28 = .ok (.ireturn, 1) := by decide +kernel
theorem d_Lat_indexOf_29 : decode b_Lat_indexOf 29 = .ok (.aload_n 0, 1) := by decide +kernel
theorem d_Lat_indexOf_30 : decode b_Lat_indexOf 30 = .ok (.iload_n 1, 1) := by decide +kernel
theorem d_Lat_indexOf_31 : decode b_Lat_indexOf 31 = .ok (.iload_n 2, 1) := by decide +kernel
theorem d_Lat_indexOf_32 : decode b_Lat_indexOf 32 = .ok (.iload_n 3, 1) := by decide +kernel
theorem d_Lat_indexOf_33 : decode b_Lat_indexOf 33 = .ok (.invokestatic 95, 3) := by decide +kernel
theorem d_Lat_indexOf_36 : decode b_Lat_indexOf 36 = .ok (.ireturn, 1) := by decide +kernel
theorem d_Lat_indexOfChar_0 : decode b_Lat_indexOfChar 0 = .ok (.iload_n 1, 1) := by decide +kernel
theorem d_Lat_indexOfChar_1 : decode b_Lat_indexOfChar 1 = .ok (.i2b, 1) := by decide +kernel
theorem d_Lat_indexOfChar_2 : decode b_Lat_indexOfChar 2 = .ok (.istore 4, 2) := by decide +kernel
theorem d_Lat_indexOfChar_4 : decode b_Lat_indexOfChar 4 = .ok (.iload_n 2, 1) := by decide +kernel
theorem d_Lat_indexOfChar_5 : decode b_Lat_indexOfChar 5 = .ok (.istore 5, 2) := by decide +kernel
theorem d_Lat_indexOfChar_7 : decode b_Lat_indexOfChar 7 = .ok (.iload 5, 2) := by decide +kernel
theorem d_Lat_indexOfChar_9 : decode b_Lat_indexOfChar 9 = .ok (.iload_n 3, 1) := by decide +kernel
theorem d_Lat_indexOfChar_10 : decode b_Lat_indexOfChar 10 = .ok (.if_icmp .ge 21, 3) := by decide +kernel
theorem d_Lat_indexOfChar_13 : decode b_Lat_indexOfChar 13 = .ok (.aload_n 0, 1) := by decide +kernel
theorem d_Lat_indexOfChar_14 : decode b_Lat_indexOfChar 14 = .ok (.iload 5, 2) := by decide +kernel
theorem d_Lat_indexOfChar_16 : decode b_Lat_indexOfChar 16 = .ok (.baload, 1) := by decide +kernel
theorem d_Lat_indexOfChar_17 : decode b_Lat_indexOfChar 17 = .ok (.iload 4, 2) := by decide +kernel
theorem d_Lat_indexOfChar_19 : decode b_Lat_indexOfChar 19 = .ok (.if_icmp .ne 6, 3) := by decide +kernel
theorem d_Lat_indexOfChar_22 : decode b_Lat_indexOfChar 22 = .ok (.iload 5, 2) := by decide +kernel
theorem d_Lat_indexOfChar_24 : decode b_Lat_indexOfChar 24 = .ok (.ireturn, 1) := by decide +kernel
theorem d_Lat_indexOfChar_25 : decode b_Lat_indexOfChar 25 = .ok (.iinc 5 1, 3) := by decide +kernel
theorem d_Lat_indexOfChar_28 : decode b_Lat_indexOfChar 28 = .ok (.goto (-21), 3) := by decide +kernel
theorem d_Lat_indexOfChar_31 : decode b_Lat_indexOfChar 31 = .ok (.iconst (-1), 1) := by decide +kernel
theorem d_Lat_indexOfChar_32 : decode b_Lat_indexOfChar 32 = .ok (.ireturn, 1) := by decide +kernel
theorem d_Law_law_0 : decode code 0 = .ok (.new 7, 3) := by decide +kernel
theorem d_Law_law_3 : decode code 3 = .ok (.dup, 1) := by decide +kernel
theorem d_Law_law_4 : decode code 4 = .ok (.invokespecial 9, 3) := by decide +kernel
theorem d_Law_law_7 : decode code 7 = .ok (.astore_n 1, 1) := by decide +kernel
theorem d_Law_law_8 : decode code 8 = .ok (.new 10, 3) := by decide +kernel
theorem d_Law_law_11 : decode code 11 = .ok (.dup, 1) := by decide +kernel
theorem d_Law_law_12 : decode code 12 = .ok (.invokespecial 12, 3) := by decide +kernel
theorem d_Law_law_15 : decode code 15 = .ok (.astore_n 2, 1) := by decide +kernel
theorem d_Law_law_16 : decode code 16 = .ok (.iconst 0, 1) := by decide +kernel
theorem d_Law_law_17 : decode code 17 = .ok (.istore_n 3, 1) := by decide +kernel
theorem d_Law_law_18 : decode code 18 = .ok (.iload_n 3, 1) := by decide +kernel
theorem d_Law_law_19 : decode code 19 = .ok (.aload_n 0, 1) := by decide +kernel
theorem d_Law_law_20 : decode code 20 = .ok (.arraylength, 1) := by decide +kernel
theorem d_Law_law_21 : decode code 21 = .ok (.iconst 5, 1) := by decide +kernel
theorem d_Law_law_22 : decode code 22 = .ok (.isub, 1) := by decide +kernel
theorem d_Law_law_23 : decode code 23 = .ok (.if_icmp .gt 874, 3) := by decide +kernel
theorem d_Law_law_26 : decode code 26 = .ok (.aload_n 0, 1) := by decide +kernel
theorem d_Law_law_27 : decode code 27 = .ok (.iload_n 3, 1) := by decide +kernel
theorem d_Law_law_28 : decode code 28 = .ok (.iaload, 1) := by decide +kernel
theorem d_Law_law_29 : decode code 29 = .ok (.bipush 31, 2) := by decide +kernel
theorem d_Law_law_31 : decode code 31 = .ok (.iand, 1) := by decide +kernel
theorem d_Law_law_32 : decode code 32 = .ok (.tableswitch 859 0 28 #[132, 155, 168, 201, 234, 277, 290, 303, 326, 349, 372, 395, 408, 431, 444, 467, 490, 523, 576, 619, 652, 685, 718, 741, 764, 777, 810, 823, 836], 132) := by decide +kernel
theorem d_Law_law_164 : decode code 164 = .ok (.aload_n 1, 1) := by decide +kernel
theorem d_Law_law_165 : decode code 165 = .ok (.aload_n 0, 1) := by decide +kernel
theorem d_Law_law_166 : decode code 166 = .ok (.iload_n 3, 1) := by decide +kernel
theorem d_Law_law_167 : decode code 167 = .ok (.iconst 1, 1) := by decide +kernel
theorem d_Law_law_168 : decode code 168 = .ok (.iadd, 1) := by decide +kernel
theorem d_Law_law_169 : decode code 169 = .ok (.iaload, 1) := by decide +kernel
theorem d_Law_law_170 : decode code 170 = .ok (.invokevirtual 13, 3) := by decide +kernel
theorem d_Law_law_173 : decode code 173 = .ok (.aload_n 2, 1) := by decide +kernel
theorem d_Law_law_174 : decode code 174 = .ok (.aload_n 0, 1) := by decide +kernel
theorem d_Law_law_175 : decode code 175 = .ok (.iload_n 3, 1) := by decide +kernel
theorem d_Law_law_176 : decode code 176 = .ok (.iconst 1, 1) := by decide +kernel
theorem d_Law_law_177 : decode code 177 = .ok (.iadd, 1) := by decide +kernel
theorem d_Law_law_178 : decode code 178 = .ok (.iaload, 1) := by decide +kernel
theorem d_Law_law_179 : decode code 179 = .ok (.invokevirtual 17, 3) := by decide +kernel
theorem d_Law_law_182 : decode code 182 = .ok (.if_icmp .eq 709, 3) := by decide +kernel
theorem d_Law_law_185 : decode code 185 = .ok (.iconst 0, 1) := by decide +kernel
theorem d_Law_law_186 : decode code 186 = .ok (.ireturn, 1) := by decide +kernel
theorem d_Law_law_187 : decode code 187 = .ok (.aload_n 1, 1) := by decide +kernel
theorem d_Law_law_188 : decode code 188 = .ok (.invokevirtual 18, 3) := by decide +kernel
theorem d_Law_law_191 : decode code 191 = .ok (.aload_n 2, 1) := by decide +kernel
theorem d_Law_law_192 : decode code 192 = .ok (.invokevirtual 22, 3) := by decide +kernel
theorem d_Law_law_195 : decode code 195 = .ok (.if_icmp .eq 696, 3) := by decide +kernel
theorem d_Law_law_198 : decode code 198 = .ok (.iconst 0, 1) := by decide +kernel
theorem d_Law_law_199 : decode code 199 = .ok (.ireturn, 1) := by decide +kernel
theorem d_Law_law_200 : decode code 200 = .ok (.aload_n 1, 1) := by decide +kernel
theorem d_Law_law_201 : decode code 201 = .ok (.aload_n 0, 1) := by decide +kernel
theorem d_Law_law_202 : decode code 202 = .ok (.iload_n 3, 1) := by decide +kernel
theorem d_Law_law_203 : decode code 203 = .ok (.iconst 1, 1) := by decide +kernel
theorem d_Law_law_204 : decode code 204 = .ok (.iadd, 1) := by decide +kernel
theorem d_Law_law_205 : decode code 205 = .ok (.iaload, 1) := by decide +kernel
theorem d_Law_law_206 : decode code 206 = .ok (.aload_n 0, 1) := by decide +kernel
theorem d_Law_law_207 : decode code 207 = .ok (.iload_n 3, 1) := by decide +kernel
theorem d_Law_law_208 : decode code 208 = .ok (.iconst 2, 1) := by decide +kernel
theorem d_Law_law_209 : decode code 209 = .ok (.iadd, 1) := by decide +kernel
theorem d_Law_law_210 : decode code 210 = .ok (.iaload, 1) := by decide +kernel
theorem d_Law_law_211 : decode code 211 = .ok (.invokevirtual 23, 3) := by decide +kernel
theorem d_Law_law_214 : decode code 214 = .ok (.aload_n 2, 1) := by decide +kernel
theorem d_Law_law_215 : decode code 215 = .ok (.aload_n 0, 1) := by decide +kernel
theorem d_Law_law_216 : decode code 216 = .ok (.iload_n 3, 1) := by decide +kernel
theorem d_Law_law_217 : decode code 217 = .ok (.iconst 1, 1) := by decide +kernel
theorem d_Law_law_218 : decode code 218 = .ok (.iadd, 1) := by decide +kernel
theorem d_Law_law_219 : decode code 219 = .ok (.iaload, 1) := by decide +kernel
theorem d_Law_law_220 : decode code 220 = .ok (.aload_n 0, 1) := by decide +kernel
theorem d_Law_law_221 : decode code 221 = .ok (.iload_n 3, 1) := by decide +kernel
theorem d_Law_law_222 : decode code 222 = .ok (.iconst 2, 1) := by decide +kernel
theorem d_Law_law_223 : decode code 223 = .ok (.iadd, 1) := by decide +kernel
theorem d_Law_law_224 : decode code 224 = .ok (.iaload, 1) := by decide +kernel
theorem d_Law_law_225 : decode code 225 = .ok (.invokevirtual 27, 3) := by decide +kernel
theorem d_Law_law_228 : decode code 228 = .ok (.if_icmp .eq 663, 3) := by decide +kernel
theorem d_Law_law_231 : decode code 231 = .ok (.iconst 0, 1) := by decide +kernel
theorem d_Law_law_232 : decode code 232 = .ok (.ireturn, 1) := by decide +kernel
theorem d_Law_law_233 : decode code 233 = .ok (.aload_n 1, 1) := by decide +kernel
theorem d_Law_law_234 : decode code 234 = .ok (.aload_n 0, 1) := by decide +kernel
theorem d_Law_law_235 : decode code 235 = .ok (.iload_n 3, 1) := by decide +kernel
theorem d_Law_law_236 : decode code 236 = .ok (.iconst 1, 1) := by decide +kernel
theorem d_Law_law_237 : decode code 237 = .ok (.iadd, 1) := by decide +kernel
theorem d_Law_law_238 : decode code 238 = .ok (.iaload, 1) := by decide +kernel
theorem d_Law_law_239 : decode code 239 = .ok (.aload_n 0, 1) := by decide +kernel
theorem d_Law_law_240 : decode code 240 = .ok (.iload_n 3, 1) := by decide +kernel
theorem d_Law_law_241 : decode code 241 = .ok (.iconst 2, 1) := by decide +kernel
theorem d_Law_law_242 : decode code 242 = .ok (.iadd, 1) := by decide +kernel
theorem d_Law_law_243 : decode code 243 = .ok (.iaload, 1) := by decide +kernel
theorem d_Law_law_244 : decode code 244 = .ok (.invokevirtual 28, 3) := by decide +kernel
theorem d_Law_law_247 : decode code 247 = .ok (.aload_n 2, 1) := by decide +kernel
theorem d_Law_law_248 : decode code 248 = .ok (.aload_n 0, 1) := by decide +kernel
theorem d_Law_law_249 : decode code 249 = .ok (.iload_n 3, 1) := by decide +kernel
theorem d_Law_law_250 : decode code 250 = .ok (.iconst 1, 1) := by decide +kernel
theorem d_Law_law_251 : decode code 251 = .ok (.iadd, 1) := by decide +kernel
theorem d_Law_law_252 : decode code 252 = .ok (.iaload, 1) := by decide +kernel
theorem d_Law_law_253 : decode code 253 = .ok (.aload_n 0, 1) := by decide +kernel
theorem d_Law_law_254 : decode code 254 = .ok (.iload_n 3, 1) := by decide +kernel
theorem d_Law_law_255 : decode code 255 = .ok (.iconst 2, 1) := by decide +kernel
theorem d_Law_law_256 : decode code 256 = .ok (.iadd, 1) := by decide +kernel
theorem d_Law_law_257 : decode code 257 = .ok (.iaload, 1) := by decide +kernel
theorem d_Law_law_258 : decode code 258 = .ok (.invokevirtual 31, 3) := by decide +kernel
theorem d_Law_law_261 : decode code 261 = .ok (.if_icmp .eq 630, 3) := by decide +kernel
theorem d_Law_law_264 : decode code 264 = .ok (.iconst 0, 1) := by decide +kernel
theorem d_Law_law_265 : decode code 265 = .ok (.ireturn, 1) := by decide +kernel
theorem d_Law_law_266 : decode code 266 = .ok (.aload_n 1, 1) := by decide +kernel
theorem d_Law_law_267 : decode code 267 = .ok (.aload_n 0, 1) := by decide +kernel
theorem d_Law_law_268 : decode code 268 = .ok (.iload_n 3, 1) := by decide +kernel
theorem d_Law_law_269 : decode code 269 = .ok (.iconst 1, 1) := by decide +kernel
theorem d_Law_law_270 : decode code 270 = .ok (.iadd, 1) := by decide +kernel
theorem d_Law_law_271 : decode code 271 = .ok (.iaload, 1) := by decide +kernel
theorem d_Law_law_272 : decode code 272 = .ok (.aload_n 0, 1) := by decide +kernel
theorem d_Law_law_273 : decode code 273 = .ok (.iload_n 3, 1) := by decide +kernel
theorem d_Law_law_274 : decode code 274 = .ok (.iconst 2, 1) := by decide +kernel
theorem d_Law_law_275 : decode code 275 = .ok (.iadd, 1) := by decide +kernel
theorem d_Law_law_276 : decode code 276 = .ok (.iaload, 1) := by decide +kernel
theorem d_Law_law_277 : decode code 277 = .ok (.aload_n 0, 1) := by decide +kernel
theorem d_Law_law_278 : decode code 278 = .ok (.iload_n 3, 1) := by decide +kernel
theorem d_Law_law_279 : decode code 279 = .ok (.iconst 3, 1) := by decide +kernel
theorem d_Law_law_280 : decode code 280 = .ok (.iadd, 1) := by decide +kernel
theorem d_Law_law_281 : decode code 281 = .ok (.iaload, 1) := by decide +kernel
theorem d_Law_law_282 : decode code 282 = .ok (.invokevirtual 32, 3) := by decide +kernel
theorem d_Law_law_285 : decode code 285 = .ok (.aload_n 2, 1) := by decide +kernel
theorem d_Law_law_286 : decode code 286 = .ok (.aload_n 0, 1) := by decide +kernel
theorem d_Law_law_287 : decode code 287 = .ok (.iload_n 3, 1) := by decide +kernel
theorem d_Law_law_288 : decode code 288 = .ok (.iconst 1, 1) := by decide +kernel
theorem d_Law_law_289 : decode code 289 = .ok (.iadd, 1) := by decide +kernel
theorem d_Law_law_290 : decode code 290 = .ok (.iaload, 1) := by decide +kernel
theorem d_Law_law_291 : decode code 291 = .ok (.aload_n 0, 1) := by decide +kernel
theorem d_Law_law_292 : decode code 292 = .ok (.iload_n 3, 1) := by decide +kernel
theorem d_Law_law_293 : decode code 293 = .ok (.iconst 2, 1) := by decide +kernel
theorem d_Law_law_294 : decode code 294 = .ok (.iadd, 1) := by decide +kernel
theorem d_Law_law_295 : decode code 295 = .ok (.iaload, 1) := by decide +kernel
theorem d_Law_law_296 : decode code 296 = .ok (.aload_n 0, 1) := by decide +kernel
theorem d_Law_law_297 : decode code 297 = .ok (.iload_n 3, 1) := by decide +kernel
theorem d_Law_law_298 : decode code 298 = .ok (.iconst 3, 1) := by decide +kernel
theorem d_Law_law_299 : decode code 299 = .ok (.iadd, 1) := by decide +kernel
theorem d_Law_law_300 : decode code 300 = .ok (.iaload, 1) := by decide +kernel
theorem d_Law_law_301 : decode code 301 = .ok (.invokevirtual 36, 3) := by decide +kernel
theorem d_Law_law_304 : decode code 304 = .ok (.if_icmp .eq 587, 3) := by decide +kernel
theorem d_Law_law_307 : decode code 307 = .ok (.iconst 0, 1) := by decide +kernel
theorem d_Law_law_308 : decode code 308 = .ok (.ireturn, 1) := by decide +kernel
theorem d_Law_law_309 : decode code 309 = .ok (.aload_n 1, 1) := by decide +kernel
theorem d_Law_law_310 : decode code 310 = .ok (.invokevirtual 37, 3) := by decide +kernel
theorem d_Law_law_313 : decode code 313 = .ok (.aload_n 2, 1) := by decide +kernel
theorem d_Law_law_314 : decode code 314 = .ok (.invokevirtual 40, 3) := by decide +kernel
theorem d_Law_law_317 : decode code 317 = .ok (.if_icmp .eq 574, 3) := by decide +kernel
theorem d_Law_law_320 : decode code 320 = .ok (.iconst 0, 1) := by decide +kernel
theorem d_Law_law_321 : decode code 321 = .ok (.ireturn, 1) := by decide +kernel
theorem d_Law_law_322 : decode code 322 = .ok (.aload_n 1, 1) := by decide +kernel
theorem d_Law_law_323 : decode code 323 = .ok (.invokevirtual 41, 3) := by decide +kernel
theorem d_Law_law_326 : decode code 326 = .ok (.aload_n 2, 1) := by decide +kernel
theorem d_Law_law_327 : decode code 327 = .ok (.invokevirtual 44, 3) := by decide +kernel
theorem d_Law_law_330 : decode code 330 = .ok (.if_icmp .eq 561, 3) := by decide +kernel
theorem d_Law_law_333 : decode code 333 = .ok (.iconst 0, 1) := by decide +kernel
theorem d_Law_law_334 : decode code 334 = .ok (.ireturn, 1) := by decide +kernel
theorem d_Law_law_335 : decode code 335 = .ok (.aload_n 1, 1) := by decide +kernel
theorem d_Law_law_336 : decode code 336 = .ok (.aload_n 0, 1) := by decide +kernel
theorem d_Law_law_337 : decode code 337 = .ok (.iload_n 3, 1) := by decide +kernel
theorem d_Law_law_338 : decode code 338 = .ok (.iconst 1, 1) := by decide +kernel
theorem d_Law_law_339 : decode code 339 = .ok (.iadd, 1) := by decide +kernel
theorem d_Law_law_340 : decode code 340 = .ok (.iaload, 1) := by decide +kernel
theorem d_Law_law_341 : decode code 341 = .ok (.invokevirtual 45, 3) := by decide +kernel
theorem d_Law_law_344 : decode code 344 = .ok (.aload_n 2, 1) := by decide +kernel
theorem d_Law_law_345 : decode code 345 = .ok (.aload_n 0, 1) := by decide +kernel
theorem d_Law_law_346 : decode code 346 = .ok (.iload_n 3, 1) := by decide +kernel
theorem d_Law_law_347 : decode code 347 = .ok (.iconst 1, 1) := by decide +kernel
theorem d_Law_law_348 : decode code 348 = .ok (.iadd, 1) := by decide +kernel
theorem d_Law_law_349 : decode code 349 = .ok (.iaload, 1) := by decide +kernel
theorem d_Law_law_350 : decode code 350 = .ok (.invokevirtual 48, 3) := by decide +kernel
theorem d_Law_law_353 : decode code 353 = .ok (.if_icmp .eq 538, 3) := by decide +kernel
theorem d_Law_law_356 : decode code 356 = .ok (.iconst 0, 1) := by decide +kernel
theorem d_Law_law_357 : decode code 357 = .ok (.ireturn, 1) := by decide +kernel
theorem d_Law_law_358 : decode code 358 = .ok (.aload_n 1, 1) := by decide +kernel
theorem d_Law_law_359 : decode code 359 = .ok (.aload_n 0, 1) := by decide +kernel
theorem d_Law_law_360 : decode code 360 = .ok (.iload_n 3, 1) := by decide +kernel
theorem d_Law_law_361 : decode code 361 = .ok (.iconst 1, 1) := by decide +kernel
theorem d_Law_law_362 : decode code 362 = .ok (.iadd, 1) := by decide +kernel
theorem d_Law_law_363 : decode code 363 = .ok (.iaload, 1) := by decide +kernel
theorem d_Law_law_364 : decode code 364 = .ok (.invokevirtual 49, 3) := by decide +kernel
theorem d_Law_law_367 : decode code 367 = .ok (.aload_n 2, 1) := by decide +kernel
theorem d_Law_law_368 : decode code 368 = .ok (.aload_n 0, 1) := by decide +kernel
theorem d_Law_law_369 : decode code 369 = .ok (.iload_n 3, 1) := by decide +kernel
theorem d_Law_law_370 : decode code 370 = .ok (.iconst 1, 1) := by decide +kernel
theorem d_Law_law_371 : decode code 371 = .ok (.iadd, 1) := by decide +kernel
theorem d_Law_law_372 : decode code 372 = .ok (.iaload, 1) := by decide +kernel
theorem d_Law_law_373 : decode code 373 = .ok (.invokevirtual 52, 3) := by decide +kernel
theorem d_Law_law_376 : decode code 376 = .ok (.if_icmp .eq 515, 3) := by decide +kernel
theorem d_Law_law_379 : decode code 379 = .ok (.iconst 0, 1) := by decide +kernel
theorem d_Law_law_380 : decode code 380 = .ok (.ireturn, 1) := by decide +kernel
theorem d_Law_law_381 : decode code 381 = .ok (.aload_n 1, 1) := by decide +kernel
theorem d_Law_law_382 : decode code 382 = .ok (.aload_n 0, 1) := by decide +kernel
theorem d_Law_law_383 : decode code 383 = .ok (.iload_n 3, 1) := by decide +kernel
theorem d_Law_law_384 : decode code 384 = .ok (.iconst 1, 1) := by decide +kernel
theorem d_Law_law_385 : decode code 385 = .ok (.iadd, 1) := by decide +kernel
theorem d_Law_law_386 : decode code 386 = .ok (.iaload, 1) := by decide +kernel
theorem d_Law_law_387 : decode code 387 = .ok (.invokevirtual 53, 3) := by decide +kernel
theorem d_Law_law_390 : decode code 390 = .ok (.aload_n 2, 1) := by decide +kernel
theorem d_Law_law_391 : decode code 391 = .ok (.aload_n 0, 1) := by decide +kernel
theorem d_Law_law_392 : decode code 392 = .ok (.iload_n 3, 1) := by decide +kernel
theorem d_Law_law_393 : decode code 393 = .ok (.iconst 1, 1) := by decide +kernel
theorem d_Law_law_394 : decode code 394 = .ok (.iadd, 1) := by decide +kernel
theorem d_Law_law_395 : decode code 395 = .ok (.iaload, 1) := by decide +kernel
theorem d_Law_law_396 : decode code 396 = .ok (.invokevirtual 56, 3) := by decide +kernel
theorem d_Law_law_399 : decode code 399 = .ok (.if_icmp .eq 492, 3) := by decide +kernel
theorem d_Law_law_402 : decode code 402 = .ok (.iconst 0, 1) := by decide +kernel
theorem d_Law_law_403 : decode code 403 = .ok (.ireturn, 1) := by decide +kernel
theorem d_Law_law_404 : decode code 404 = .ok (.aload_n 1, 1) := by decide +kernel
theorem d_Law_law_405 : decode code 405 = .ok (.aload_n 0, 1) := by decide +kernel
theorem d_Law_law_406 : decode code 406 = .ok (.iload_n 3, 1) := by decide +kernel
theorem d_Law_law_407 : decode code 407 = .ok (.iconst 1, 1) := by decide +kernel
theorem d_Law_law_408 : decode code 408 = .ok (.iadd, 1) := by decide +kernel
theorem d_Law_law_409 : decode code 409 = .ok (.iaload, 1) := by decide +kernel
theorem d_Law_law_410 : decode code 410 = .ok (.invokevirtual 57, 3) := by decide +kernel
theorem d_Law_law_413 : decode code 413 = .ok (.aload_n 2, 1) := by decide +kernel
theorem d_Law_law_414 : decode code 414 = .ok (.aload_n 0, 1) := by decide +kernel
theorem d_Law_law_415 : decode code 415 = .ok (.iload_n 3, 1) := by decide +kernel
theorem d_Law_law_416 : decode code 416 = .ok (.iconst 1, 1) := by decide +kernel
theorem d_Law_law_417 : decode code 417 = .ok (.iadd, 1) := by decide +kernel
theorem d_Law_law_418 : decode code 418 = .ok (.iaload, 1) := by decide +kernel
theorem d_Law_law_419 : decode code 419 = .ok (.invokevirtual 60, 3) := by decide +kernel
theorem d_Law_law_422 : decode code 422 = .ok (.if_icmp .eq 469, 3) := by decide +kernel
theorem d_Law_law_425 : decode code 425 = .ok (.iconst 0, 1) := by decide +kernel
theorem d_Law_law_426 : decode code 426 = .ok (.ireturn, 1) := by decide +kernel
theorem d_Law_law_427 : decode code 427 = .ok (.aload_n 1, 1) := by decide +kernel
theorem d_Law_law_428 : decode code 428 = .ok (.invokevirtual 61, 3) := by decide +kernel
theorem d_Law_law_431 : decode code 431 = .ok (.aload_n 2, 1) := by decide +kernel
theorem d_Law_law_432 : decode code 432 = .ok (.invokevirtual 64, 3) := by decide +kernel
theorem d_Law_law_435 : decode code 435 = .ok (.if_icmp .eq 456, 3) := by decide +kernel
theorem d_Law_law_438 : decode code 438 = .ok (.iconst 0, 1) := by decide +kernel
theorem d_Law_law_439 : decode code 439 = .ok (.ireturn, 1) := by decide +kernel
theorem d_Law_law_440 : decode code 440 = .ok (.aload_n 1, 1) := by decide +kernel
theorem d_Law_law_441 : decode code 441 = .ok (.aload_n 0, 1) := by decide +kernel
theorem d_Law_law_442 : decode code 442 = .ok (.iload_n 3, 1) := by decide +kernel
theorem d_Law_law_443 : decode code 443 = .ok (.iconst 1, 1) := by decide +kernel
theorem d_Law_law_444 : decode code 444 = .ok (.iadd, 1) := by decide +kernel
theorem d_Law_law_445 : decode code 445 = .ok (.iaload, 1) := by decide +kernel
theorem d_Law_law_446 : decode code 446 = .ok (.invokevirtual 65, 3) := by decide +kernel
theorem d_Law_law_449 : decode code 449 = .ok (.aload_n 2, 1) := by decide +kernel
theorem d_Law_law_450 : decode code 450 = .ok (.aload_n 0, 1) := by decide +kernel
theorem d_Law_law_451 : decode code 451 = .ok (.iload_n 3, 1) := by decide +kernel
theorem d_Law_law_452 : decode code 452 = .ok (.iconst 1, 1) := by decide +kernel
theorem d_Law_law_453 : decode code 453 = .ok (.iadd, 1) := by decide +kernel
theorem d_Law_law_454 : decode code 454 = .ok (.iaload, 1) := by decide +kernel
theorem d_Law_law_455 : decode code 455 = .ok (.invokevirtual 68, 3) := by decide +kernel
theorem d_Law_law_458 : decode code 458 = .ok (.if_icmp .eq 433, 3) := by decide +kernel
theorem d_Law_law_461 : decode code 461 = .ok (.iconst 0, 1) := by decide +kernel
theorem d_Law_law_462 : decode code 462 = .ok (.ireturn, 1) := by decide +kernel
theorem d_Law_law_463 : decode code 463 = .ok (.aload_n 1, 1) := by decide +kernel
theorem d_Law_law_464 : decode code 464 = .ok (.invokevirtual 69, 3) := by decide +kernel
theorem d_Law_law_467 : decode code 467 = .ok (.aload_n 2, 1) := by decide +kernel
theorem d_Law_law_468 : decode code 468 = .ok (.invokevirtual 72, 3) := by decide +kernel
theorem d_Law_law_471 : decode code 471 = .ok (.if_icmp .eq 420, 3) := by decide +kernel
theorem d_Law_law_474 : decode code 474 = .ok (.iconst 0, 1) := by decide +kernel
theorem d_Law_law_475 : decode code 475 = .ok (.ireturn, 1) := by decide +kernel
theorem d_Law_law_476 : decode code 476 = .ok (.aload_n 1, 1) := by decide +kernel
theorem d_Law_law_477 : decode code 477 = .ok (.aload_n 0, 1) := by decide +kernel
theorem d_Law_law_478 : decode code 478 = .ok (.iload_n 3, 1) := by decide +kernel
theorem d_Law_law_479 : decode code 479 = .ok (.iconst 1, 1) := by decide +kernel
theorem d_Law_law_480 : decode code 480 = .ok (.iadd, 1) := by decide +kernel
theorem d_Law_law_481 : decode code 481 = .ok (.iaload, 1) := by decide +kernel
theorem d_Law_law_482 : decode code 482 = .ok (.invokevirtual 73, 3) := by decide +kernel
theorem d_Law_law_485 : decode code 485 = .ok (.aload_n 2, 1) := by decide +kernel
theorem d_Law_law_486 : decode code 486 = .ok (.aload_n 0, 1) := by decide +kernel
theorem d_Law_law_487 : decode code 487 = .ok (.iload_n 3, 1) := by decide +kernel
theorem d_Law_law_488 : decode code 488 = .ok (.iconst 1, 1) := by decide +kernel
theorem d_Law_law_489 : decode code 489 = .ok (.iadd, 1) := by decide +kernel
theorem d_Law_law_490 : decode code 490 = .ok (.iaload, 1) := by decide +kernel
theorem d_Law_law_491 : decode code 491 = .ok (.invokevirtual 76, 3) := by decide +kernel
theorem d_Law_law_494 : decode code 494 = .ok (.if_icmp .eq 397, 3) := by decide +kernel
theorem d_Law_law_497 : decode code 497 = .ok (.iconst 0, 1) := by decide +kernel
theorem d_Law_law_498 : decode code 498 = .ok (.ireturn, 1) := by decide +kernel
theorem d_Law_law_499 : decode code 499 = .ok (.aload_n 1, 1) := by decide +kernel
theorem d_Law_law_500 : decode code 500 = .ok (.aload_n 0, 1) := by decide +kernel
theorem d_Law_law_501 : decode code 501 = .ok (.iload_n 3, 1) := by decide +kernel
theorem d_Law_law_502 : decode code 502 = .ok (.iconst 1, 1) := by decide +kernel
theorem d_Law_law_503 : decode code 503 = .ok (.iadd, 1) := by decide +kernel
theorem d_Law_law_504 : decode code 504 = .ok (.iaload, 1) := by decide +kernel
theorem d_Law_law_505 : decode code 505 = .ok (.invokevirtual 77, 3) := by decide +kernel
theorem d_Law_law_508 : decode code 508 = .ok (.aload_n 2, 1) := by decide +kernel
theorem d_Law_law_509 : decode code 509 = .ok (.aload_n 0, 1) := by decide +kernel
theorem d_Law_law_510 : decode code 510 = .ok (.iload_n 3, 1) := by decide +kernel
theorem d_Law_law_511 : decode code 511 = .ok (.iconst 1, 1) := by decide +kernel
theorem d_Law_law_512 : decode code 512 = .ok (.iadd, 1) := by decide +kernel
theorem d_Law_law_513 : decode code 513 = .ok (.iaload, 1) := by decide +kernel
theorem d_Law_law_514 : decode code 514 = .ok (.invokevirtual 80, 3) := by decide +kernel
theorem d_Law_law_517 : decode code 517 = .ok (.if_icmp .eq 374, 3) := by decide +kernel
theorem d_Law_law_520 : decode code 520 = .ok (.iconst 0, 1) := by decide +kernel
theorem d_Law_law_521 : decode code 521 = .ok (.ireturn, 1) := by decide +kernel
theorem d_Law_law_522 : decode code 522 = .ok (.aload_n 1, 1) := by decide +kernel
theorem d_Law_law_523 : decode code 523 = .ok (.aload_n 0, 1) := by decide +kernel
theorem d_Law_law_524 : decode code 524 = .ok (.iload_n 3, 1) := by decide +kernel
theorem d_Law_law_525 : decode code 525 = .ok (.iconst 1, 1) := by decide +kernel
theorem d_Law_law_526 : decode code 526 = .ok (.iadd, 1) := by decide +kernel
theorem d_Law_law_527 : decode code 527 = .ok (.iaload, 1) := by decide +kernel
theorem d_Law_law_528 : decode code 528 = .ok (.aload_n 0, 1) := by decide +kernel
theorem d_Law_law_529 : decode code 529 = .ok (.iload_n 3, 1) := by decide +kernel
theorem d_Law_law_530 : decode code 530 = .ok (.iconst 2, 1) := by decide +kernel
theorem d_Law_law_531 : decode code 531 = .ok (.iadd, 1) := by decide +kernel
theorem d_Law_law_532 : decode code 532 = .ok (.iaload, 1) := by decide +kernel
theorem d_Law_law_533 : decode code 533 = .ok (.invokevirtual 81, 3) := by decide +kernel
theorem d_Law_law_536 : decode code 536 = .ok (.aload_n 2, 1) := by decide +kernel
theorem d_Law_law_537 : decode code 537 = .ok (.aload_n 0, 1) := by decide +kernel
theorem d_Law_law_538 : decode code 538 = .ok (.iload_n 3, 1) := by decide +kernel
theorem d_Law_law_539 : decode code 539 = .ok (.iconst 1, 1) := by decide +kernel
theorem d_Law_law_540 : decode code 540 = .ok (.iadd, 1) := by decide +kernel
theorem d_Law_law_541 : decode code 541 = .ok (.iaload, 1) := by decide +kernel
theorem d_Law_law_542 : decode code 542 = .ok (.aload_n 0, 1) := by decide +kernel
theorem d_Law_law_543 : decode code 543 = .ok (.iload_n 3, 1) := by decide +kernel
theorem d_Law_law_544 : decode code 544 = .ok (.iconst 2, 1) := by decide +kernel
theorem d_Law_law_545 : decode code 545 = .ok (.iadd, 1) := by decide +kernel
theorem d_Law_law_546 : decode code 546 = .ok (.iaload, 1) := by decide +kernel
theorem d_Law_law_547 : decode code 547 = .ok (.invokevirtual 84, 3) := by decide +kernel
theorem d_Law_law_550 : decode code 550 = .ok (.if_icmp .eq 341, 3) := by decide +kernel
theorem d_Law_law_553 : decode code 553 = .ok (.iconst 0, 1) := by decide +kernel
theorem d_Law_law_554 : decode code 554 = .ok (.ireturn, 1) := by decide +kernel
theorem d_Law_law_555 : decode code 555 = .ok (.aload_n 1, 1) := by decide +kernel
theorem d_Law_law_556 : decode code 556 = .ok (.aload_n 0, 1) := by decide +kernel
theorem d_Law_law_557 : decode code 557 = .ok (.iload_n 3, 1) := by decide +kernel
theorem d_Law_law_558 : decode code 558 = .ok (.iconst 1, 1) := by decide +kernel
theorem d_Law_law_559 : decode code 559 = .ok (.iadd, 1) := by decide +kernel
theorem d_Law_law_560 : decode code 560 = .ok (.iaload, 1) := by decide +kernel
theorem d_Law_law_561 : decode code 561 = .ok (.aload_n 0, 1) := by decide +kernel
theorem d_Law_law_562 : decode code 562 = .ok (.iload_n 3, 1) := by decide +kernel
theorem d_Law_law_563 : decode code 563 = .ok (.iconst 2, 1) := by decide +kernel
theorem d_Law_law_564 : decode code 564 = .ok (.iadd, 1) := by decide +kernel
theorem d_Law_law_565 : decode code 565 = .ok (.iaload, 1) := by decide +kernel
theorem d_Law_law_566 : decode code 566 = .ok (.aload_n 0, 1) := by decide +kernel
theorem d_Law_law_567 : decode code 567 = .ok (.iload_n 3, 1) := by decide +kernel
theorem d_Law_law_568 : decode code 568 = .ok (.iconst 3, 1) := by decide +kernel
theorem d_Law_law_569 : decode code 569 = .ok (.iadd, 1) := by decide +kernel
theorem d_Law_law_570 : decode code 570 = .ok (.iaload, 1) := by decide +kernel
theorem d_Law_law_571 : decode code 571 = .ok (.aload_n 0, 1) := by decide +kernel
theorem d_Law_law_572 : decode code 572 = .ok (.iload_n 3, 1) := by decide +kernel
theorem d_Law_law_573 : decode code 573 = .ok (.iconst 4, 1) := by decide +kernel
theorem d_Law_law_574 : decode code 574 = .ok (.iadd, 1) := by decide +kernel
theorem d_Law_law_575 : decode code 575 = .ok (.iaload, 1) := by decide +kernel
theorem d_Law_law_576 : decode code 576 = .ok (.invokevirtual 85, 3) := by decide +kernel
theorem d_Law_law_579 : decode code 579 = .ok (.aload_n 2, 1) := by decide +kernel
theorem d_Law_law_580 : decode code 580 = .ok (.aload_n 0, 1) := by decide +kernel
theorem d_Law_law_581 : decode code 581 = .ok (.iload_n 3, 1) := by decide +kernel
theorem d_Law_law_582 : decode code 582 = .ok (.iconst 1, 1) := by decide +kernel
theorem d_Law_law_583 : decode code 583 = .ok (.iadd, 1) := by decide +kernel
theorem d_Law_law_584 : decode code 584 = .ok (.iaload, 1) := by decide +kernel
theorem d_Law_law_585 : decode code 585 = .ok (.aload_n 0, 1) := by decide +kernel
theorem d_Law_law_586 : decode code 586 = .ok (.iload_n 3, 1) := by decide +kernel
theorem d_Law_law_587 : decode code 587 = .ok (.iconst 2, 1) := by decide +kernel
theorem d_Law_law_588 : decode code 588 = .ok (.iadd, 1) := by decide +kernel
theorem d_Law_law_589 : decode code 589 = .ok (.iaload, 1) := by decide +kernel
theorem d_Law_law_590 : decode code 590 = .ok (.aload_n 0, 1) := by decide +kernel
theorem d_Law_law_591 : decode code 591 = .ok (.iload_n 3, 1) := by decide +kernel
theorem d_Law_law_592 : decode code 592 = .ok (.iconst 3, 1) := by decide +kernel
theorem d_Law_law_593 : decode code 593 = .ok (.iadd, 1) := by decide +kernel
theorem d_Law_law_594 : decode code 594 = .ok (.iaload, 1) := by decide +kernel
theorem d_Law_law_595 : decode code 595 = .ok (.aload_n 0, 1) := by decide +kernel
theorem d_Law_law_596 : decode code 596 = .ok (.iload_n 3, 1) := by decide +kernel
theorem d_Law_law_597 : decode code 597 = .ok (.iconst 4, 1) := by decide +kernel
theorem d_Law_law_598 : decode code 598 = .ok (.iadd, 1) := by decide +kernel
theorem d_Law_law_599 : decode code 599 = .ok (.iaload, 1) := by decide +kernel
theorem d_Law_law_600 : decode code 600 = .ok (.invokevirtual 89, 3) := by decide +kernel
theorem d_Law_law_603 : decode code 603 = .ok (.if_icmp .eq 288, 3) := by decide +kernel
theorem d_Law_law_606 : decode code 606 = .ok (.iconst 0, 1) := by decide +kernel
theorem d_Law_law_607 : decode code 607 = .ok (.ireturn, 1) := by decide +kernel
theorem d_Law_law_608 : decode code 608 = .ok (.aload_n 1, 1) := by decide +kernel
theorem d_Law_law_609 : decode code 609 = .ok (.aload_n 0, 1) := by decide +kernel
theorem d_Law_law_610 : decode code 610 = .ok (.iload_n 3, 1) := by decide +kernel
theorem d_Law_law_611 : decode code 611 = .ok (.iconst 1, 1) := by decide +kernel
theorem d_Law_law_612 : decode code 612 = .ok (.iadd, 1) := by decide +kernel
theorem d_Law_law_613 : decode code 613 = .ok (.iaload, 1) := by decide +kernel
theorem d_Law_law_614 : decode code 614 = .ok (.aload_n 0, 1) := by decide +kernel
theorem d_Law_law_615 : decode code 615 = .ok (.iload_n 3, 1) := by decide +kernel
theorem d_Law_law_616 : decode code 616 = .ok (.iconst 2, 1) := by decide +kernel
theorem d_Law_law_617 : decode code 617 = .ok (.iadd, 1) := by decide +kernel
theorem d_Law_law_618 : decode code 618 = .ok (.iaload, 1) := by decide +kernel
theorem d_Law_law_619 : decode code 619 = .ok (.aload_n 0, 1) := by decide +kernel
theorem d_Law_law_620 : decode code 620 = .ok (.iload_n 3, 1) := by decide +kernel
theorem d_Law_law_621 : decode code 621 = .ok (.iconst 3, 1) := by decide +kernel
theorem d_Law_law_622 : decode code 622 = .ok (.iadd, 1) := by decide +kernel
theorem d_Law_law_623 : decode code 623 = .ok (.iaload, 1) := by decide +kernel
theorem d_Law_law_624 : decode code 624 = .ok (.invokevirtual 90, 3) := by decide +kernel
theorem d_Law_law_627 : decode code 627 = .ok (.aload_n 2, 1) := by decide +kernel
theorem d_Law_law_628 : decode code 628 = .ok (.aload_n 0, 1) := by decide +kernel
theorem d_Law_law_629 : decode code 629 = .ok (.iload_n 3, 1) := by decide +kernel
theorem d_Law_law_630 : decode code 630 = .ok (.iconst 1, 1) := by decide +kernel
theorem d_Law_law_631 : decode code 631 = .ok (.iadd, 1) := by decide +kernel
theorem d_Law_law_632 : decode code 632 = .ok (.iaload, 1) := by decide +kernel
theorem d_Law_law_633 : decode code 633 = .ok (.aload_n 0, 1) := by decide +kernel
theorem d_Law_law_634 : decode code 634 = .ok (.iload_n 3, 1) := by decide +kernel
theorem d_Law_law_635 : decode code 635 = .ok (.iconst 2, 1) := by decide +kernel
theorem d_Law_law_636 : decode code 636 = .ok (.iadd, 1) := by decide +kernel
theorem d_Law_law_637 : decode code 637 = .ok (.iaload, 1) := by decide +kernel
theorem d_Law_law_638 : decode code 638 = .ok (.aload_n 0, 1) := by decide +kernel
theorem d_Law_law_639 : decode code 639 = .ok (.iload_n 3, 1) := by decide +kernel
theorem d_Law_law_640 : decode code 640 = .ok (.iconst 3, 1) := by decide +kernel
theorem d_Law_law_641 : decode code 641 = .ok (.iadd, 1) := by decide +kernel
theorem d_Law_law_642 : decode code 642 = .ok (.iaload, 1) := by decide +kernel
theorem d_Law_law_643 : decode code 643 = .ok (.invokevirtual 93, 3) := by decide +kernel
theorem d_Law_law_646 : decode code 646 = .ok (.if_icmp .eq 245, 3) := by decide +kernel
theorem d_Law_law_649 : decode code 649 = .ok (.iconst 0, 1) := by decide +kernel
theorem d_Law_law_650 : decode code 650 = .ok (.ireturn, 1) := by decide +kernel
theorem d_Law_law_651 : decode code 651 = .ok (.aload_n 1, 1) := by decide +kernel
theorem d_Law_law_652 : decode code 652 = .ok (.aload_n 0, 1) := by decide +kernel
theorem d_Law_law_653 : decode code 653 = .ok (.iload_n 3, 1) := by decide +kernel
theorem d_Law_law_654 : decode code 654 = .ok (.iconst 1, 1) := by decide +kernel
theorem d_Law_law_655 : decode code 655 = .ok (.iadd, 1) := by decide +kernel
theorem d_Law_law_656 : decode code 656 = .ok (.iaload, 1) := by decide +kernel
theorem d_Law_law_657 : decode code 657 = .ok (.aload_n 0, 1) := by decide +kernel
theorem d_Law_law_658 : decode code 658 = .ok (.iload_n 3, 1) := by decide +kernel
theorem d_Law_law_659 : decode code 659 = .ok (.iconst 2, 1) := by decide +kernel
theorem d_Law_law_660 : decode code 660 = .ok (.iadd, 1) := by decide +kernel
theorem d_Law_law_661 : decode code 661 = .ok (.iaload, 1) := by decide +kernel
theorem d_Law_law_662 : decode code 662 = .ok (.invokevirtual 94, 3) := by decide +kernel
theorem d_Law_law_665 : decode code 665 = .ok (.aload_n 2, 1) := by decide +kernel
theorem d_Law_law_666 : decode code 666 = .ok (.aload_n 0, 1) := by decide +kernel
theorem d_Law_law_667 : decode code 667 = .ok (.iload_n 3, 1) := by decide +kernel
theorem d_Law_law_668 : decode code 668 = .ok (.iconst 1, 1) := by decide +kernel
theorem d_Law_law_669 : decode code 669 = .ok (.iadd, 1) := by decide +kernel
theorem d_Law_law_670 : decode code 670 = .ok (.iaload, 1) := by decide +kernel
theorem d_Law_law_671 : decode code 671 = .ok (.aload_n 0, 1) := by decide +kernel
theorem d_Law_law_672 : decode code 672 = .ok (.iload_n 3, 1) := by decide +kernel
theorem d_Law_law_673 : decode code 673 = .ok (.iconst 2, 1) := by decide +kernel
theorem d_Law_law_674 : decode code 674 = .ok (.iadd, 1) := by decide +kernel
theorem d_Law_law_675 : decode code 675 = .ok (.iaload, 1) := by decide +kernel
theorem d_Law_law_676 : decode code 676 = .ok (.invokevirtual 97, 3) := by decide +kernel
theorem d_Law_law_679 : decode code 679 = .ok (.if_icmp .eq 212, 3) := by decide +kernel
theorem d_Law_law_682 : decode code 682 = .ok (.iconst 0, 1) := by decide +kernel
theorem d_Law_law_683 : decode code 683 = .ok (.ireturn, 1) := by decide +kernel
theorem d_Law_law_684 : decode code 684 = .ok (.aload_n 1, 1) := by decide +kernel
theorem d_Law_law_685 : decode code 685 = .ok (.aload_n 0, 1) := by decide +kernel
theorem d_Law_law_686 : decode code 686 = .ok (.iload_n 3, 1) := by decide +kernel
theorem d_Law_law_687 : decode code 687 = .ok (.iconst 1, 1) := by decide +kernel
theorem d_Law_law_688 : decode code 688 = .ok (.iadd, 1) := by decide +kernel
theorem d_Law_law_689 : decode code 689 = .ok (.iaload, 1) := by decide +kernel
theorem d_Law_law_690 : decode code 690 = .ok (.aload_n 0, 1) := by decide +kernel
theorem d_Law_law_691 : decode code 691 = .ok (.iload_n 3, 1) := by decide +kernel
theorem d_Law_law_692 : decode code 692 = .ok (.iconst 2, 1) := by decide +kernel
theorem d_Law_law_693 : decode code 693 = .ok (.iadd, 1) := by decide +kernel
theorem d_Law_law_694 : decode code 694 = .ok (.iaload, 1) := by decide +kernel
theorem d_Law_law_695 : decode code 695 = .ok (.invokevirtual 98, 3) := by decide +kernel
theorem d_Law_law_698 : decode code 698 = .ok (.aload_n 2, 1) := by decide +kernel
theorem d_Law_law_699 : decode code 699 = .ok (.aload_n 0, 1) := by decide +kernel
theorem d_Law_law_700 : decode code 700 = .ok (.iload_n 3, 1) := by decide +kernel
theorem d_Law_law_701 : decode code 701 = .ok (.iconst 1, 1) := by decide +kernel
theorem d_Law_law_702 : decode code 702 = .ok (.iadd, 1) := by decide +kernel
theorem d_Law_law_703 : decode code 703 = .ok (.iaload, 1) := by decide +kernel
theorem d_Law_law_704 : decode code 704 = .ok (.aload_n 0, 1) := by decide +kernel
theorem d_Law_law_705 : decode code 705 = .ok (.iload_n 3, 1) := by decide +kernel
theorem d_Law_law_706 : decode code 706 = .ok (.iconst 2, 1) := by decide +kernel
theorem d_Law_law_707 : decode code 707 = .ok (.iadd, 1) := by decide +kernel
theorem d_Law_law_708 : decode code 708 = .ok (.iaload, 1) := by decide +kernel
theorem d_Law_law_709 : decode code 709 = .ok (.invokevirtual 101, 3) := by decide +kernel
theorem d_Law_law_712 : decode code 712 = .ok (.if_icmp .eq 179, 3) := by decide +kernel
theorem d_Law_law_715 : decode code 715 = .ok (.iconst 0, 1) := by decide +kernel
theorem d_Law_law_716 : decode code 716 = .ok (.ireturn, 1) := by decide +kernel
theorem d_Law_law_717 : decode code 717 = .ok (.aload_n 1, 1) := by decide +kernel
theorem d_Law_law_718 : decode code 718 = .ok (.aload_n 0, 1) := by decide +kernel
theorem d_Law_law_719 : decode code 719 = .ok (.iload_n 3, 1) := by decide +kernel
theorem d_Law_law_720 : decode code 720 = .ok (.iconst 1, 1) := by decide +kernel
theorem d_Law_law_721 : decode code 721 = .ok (.iadd, 1) := by decide +kernel
theorem d_Law_law_722 : decode code 722 = .ok (.iaload, 1) := by decide +kernel
theorem d_Law_law_723 : decode code 723 = .ok (.aload_n 0, 1) := by decide +kernel
theorem d_Law_law_724 : decode code 724 = .ok (.iload_n 3, 1) := by decide +kernel
theorem d_Law_law_725 : decode code 725 = .ok (.iconst 2, 1) := by decide +kernel
theorem d_Law_law_726 : decode code 726 = .ok (.iadd, 1) := by decide +kernel
theorem d_Law_law_727 : decode code 727 = .ok (.iaload, 1) := by decide +kernel
theorem d_Law_law_728 : decode code 728 = .ok (.invokevirtual 102, 3) := by decide +kernel
theorem d_Law_law_731 : decode code 731 = .ok (.aload_n 2, 1) := by decide +kernel
theorem d_Law_law_732 : decode code 732 = .ok (.aload_n 0, 1) := by decide +kernel
theorem d_Law_law_733 : decode code 733 = .ok (.iload_n 3, 1) := by decide +kernel
theorem d_Law_law_734 : decode code 734 = .ok (.iconst 1, 1) := by decide +kernel
theorem d_Law_law_735 : decode code 735 = .ok (.iadd, 1) := by decide +kernel
theorem d_Law_law_736 : decode code 736 = .ok (.iaload, 1) := by decide +kernel
theorem d_Law_law_737 : decode code 737 = .ok (.aload_n 0, 1) := by decide +kernel
theorem d_Law_law_738 : decode code 738 = .ok (.iload_n 3, 1) := by decide +kernel
theorem d_Law_law_739 : decode code 739 = .ok (.iconst 2, 1) := by decide +kernel
theorem d_Law_law_740 : decode code 740 = .ok (.iadd, 1) := by decide +kernel
theorem d_Law_law_741 : decode code 741 = .ok (.iaload, 1) := by decide +kernel
theorem d_Law_law_742 : decode code 742 = .ok (.invokevirtual 105, 3) := by decide +kernel
theorem d_Law_law_745 : decode code 745 = .ok (.if_icmp .eq 146, 3) := by decide +kernel
theorem d_Law_law_748 : decode code 748 = .ok (.iconst 0, 1) := by decide +kernel
theorem d_Law_law_749 : decode code 749 = .ok (.ireturn, 1) := by decide +kernel
theorem d_Law_law_750 : decode code 750 = .ok (.aload_n 1, 1) := by decide +kernel
theorem d_Law_law_751 : decode code 751 = .ok (.aload_n 0, 1) := by decide +kernel
theorem d_Law_law_752 : decode code 752 = .ok (.iload_n 3, 1) := by decide +kernel
theorem d_Law_law_753 : decode code 753 = .ok (.iconst 1, 1) := by decide +kernel
theorem d_Law_law_754 : decode code 754 = .ok (.iadd, 1) := by decide +kernel
theorem d_Law_law_755 : decode code 755 = .ok (.iaload, 1) := by decide +kernel
theorem d_Law_law_756 : decode code 756 = .ok (.invokevirtual 106, 3) := by decide +kernel
theorem d_Law_law_759 : decode code 759 = .ok (.aload_n 2, 1) := by decide +kernel
theorem d_Law_law_760 : decode code 760 = .ok (.aload_n 0, 1) := by decide +kernel
theorem d_Law_law_761 : decode code 761 = .ok (.iload_n 3, 1) := by decide +kernel
theorem d_Law_law_762 : decode code 762 = .ok (.iconst 1, 1) := by decide +kernel
theorem d_Law_law_763 : decode code 763 = .ok (.iadd, 1) := by decide +kernel
theorem d_Law_law_764 : decode code 764 = .ok (.iaload, 1) := by decide +kernel
theorem d_Law_law_765 : decode code 765 = .ok (.invokevirtual 109, 3) := by decide +kernel
theorem d_Law_law_768 : decode code 768 = .ok (.if_icmp .eq 123, 3) := by decide +kernel
theorem d_Law_law_771 : decode code 771 = .ok (.iconst 0, 1) := by decide +kernel
theorem d_Law_law_772 : decode code 772 = .ok (.ireturn, 1) := by decide +kernel
theorem d_Law_law_773 : decode code 773 = .ok (.aload_n 1, 1) := by decide +kernel
theorem d_Law_law_774 : decode code 774 = .ok (.aload_n 0, 1) := by decide +kernel
theorem d_Law_law_775 : decode code 775 = .ok (.iload_n 3, 1) := by decide +kernel
theorem d_Law_law_776 : decode code 776 = .ok (.iconst 1, 1) := by decide +kernel
theorem d_Law_law_777 : decode code 777 = .ok (.iadd, 1) := by decide +kernel
theorem d_Law_law_778 : decode code 778 = .ok (.iaload, 1) := by decide +kernel
theorem d_Law_law_779 : decode code 779 = .ok (.invokevirtual 110, 3) := by decide +kernel
theorem d_Law_law_782 : decode code 782 = .ok (.aload_n 2, 1) := by decide +kernel
theorem d_Law_law_783 : decode code 783 = .ok (.aload_n 0, 1) := by decide +kernel
theorem d_Law_law_784 : decode code 784 = .ok (.iload_n 3, 1) := by decide +kernel
theorem d_Law_law_785 : decode code 785 = .ok (.iconst 1, 1) := by decide +kernel
theorem d_Law_law_786 : decode code 786 = .ok (.iadd, 1) := by decide +kernel
theorem d_Law_law_787 : decode code 787 = .ok (.iaload, 1) := by decide +kernel
theorem d_Law_law_788 : decode code 788 = .ok (.invokevirtual 113, 3) := by decide +kernel
theorem d_Law_law_791 : decode code 791 = .ok (.if_icmp .eq 100, 3) := by decide +kernel
theorem d_Law_law_794 : decode code 794 = .ok (.iconst 0, 1) := by decide +kernel
theorem d_Law_law_795 : decode code 795 = .ok (.ireturn, 1) := by decide +kernel
theorem d_Law_law_796 : decode code 796 = .ok (.aload_n 1, 1) := by decide +kernel
theorem d_Law_law_797 : decode code 797 = .ok (.invokevirtual 114, 3) := by decide +kernel
theorem d_Law_law_800 : decode code 800 = .ok (.aload_n 2, 1) := by decide +kernel
theorem d_Law_law_801 : decode code 801 = .ok (.invokevirtual 117, 3) := by decide +kernel
theorem d_Law_law_804 : decode code 804 = .ok (.if_icmp .eq 87, 3) := by decide +kernel
theorem d_Law_law_807 : decode code 807 = .ok (.iconst 0, 1) := by decide +kernel
theorem d_Law_law_808 : decode code 808 = .ok (.ireturn, 1) := by decide +kernel
theorem d_Law_law_809 : decode code 809 = .ok (.aload_n 1, 1) := by decide +kernel
theorem d_Law_law_810 : decode code 810 = .ok (.aload_n 0, 1) := by decide +kernel
theorem d_Law_law_811 : decode code 811 = .ok (.iload_n 3, 1) := by decide +kernel
theorem d_Law_law_812 : decode code 812 = .ok (.iconst 1, 1) := by decide +kernel
theorem d_Law_law_813 : decode code 813 = .ok (.iadd, 1) := by decide +kernel
theorem d_Law_law_814 : decode code 814 = .ok (.iaload, 1) := by decide +kernel
theorem d_Law_law_815 : decode code 815 = .ok (.aload_n 0, 1) := by decide +kernel
theorem d_Law_law_816 : decode code 816 = .ok (.iload_n 3, 1) := by decide +kernel
theorem d_Law_law_817 : decode code 817 = .ok (.iconst 2, 1) := by decide +kernel
theorem d_Law_law_818 : decode code 818 = .ok (.iadd, 1) := by decide +kernel
theorem d_Law_law_819 : decode code 819 = .ok (.iaload, 1) := by decide +kernel
theorem d_Law_law_820 : decode code 820 = .ok (.invokevirtual 118, 3) := by decide +kernel
theorem d_Law_law_823 : decode code 823 = .ok (.aload_n 2, 1) := by decide +kernel
theorem d_Law_law_824 : decode code 824 = .ok (.aload_n 0, 1) := by decide +kernel
theorem d_Law_law_825 : decode code 825 = .ok (.iload_n 3, 1) := by decide +kernel
theorem d_Law_law_826 : decode code 826 = .ok (.iconst 1, 1) := by decide +kernel
theorem d_Law_law_827 : decode code 827 = .ok (.iadd, 1) := by decide +kernel
theorem d_Law_law_828 : decode code 828 = .ok (.iaload, 1) := by decide +kernel
theorem d_Law_law_829 : decode code 829 = .ok (.aload_n 0, 1) := by decide +kernel
theorem d_Law_law_830 : decode code 830 = .ok (.iload_n 3, 1) := by decide +kernel
theorem d_Law_law_831 : decode code 831 = .ok (.iconst 2, 1) := by decide +kernel
theorem d_Law_law_832 : decode code 832 = .ok (.iadd, 1) := by decide +kernel
theorem d_Law_law_833 : decode code 833 = .ok (.iaload, 1) := by decide +kernel
theorem d_Law_law_834 : decode code 834 = .ok (.invokevirtual 121, 3) := by decide +kernel
theorem d_Law_law_837 : decode code 837 = .ok (.if_icmp .eq 54, 3) := by decide +kernel
theorem d_Law_law_840 : decode code 840 = .ok (.iconst 0, 1) := by decide +kernel
theorem d_Law_law_841 : decode code 841 = .ok (.ireturn, 1) := by decide +kernel
theorem d_Law_law_842 : decode code 842 = .ok (.aload_n 1, 1) := by decide +kernel
theorem d_Law_law_843 : decode code 843 = .ok (.invokevirtual 122, 3) := by decide +kernel
theorem d_Law_law_846 : decode code 846 = .ok (.aload_n 2, 1) := by decide +kernel
theorem d_Law_law_847 : decode code 847 = .ok (.invokevirtual 125, 3) := by decide +kernel
theorem d_Law_law_850 : decode code 850 = .ok (.if_icmp .eq 41, 3) := by decide +kernel
theorem d_Law_law_853 : decode code 853 = .ok (.iconst 0, 1) := by decide +kernel
theorem d_Law_law_854 : decode code 854 = .ok (.ireturn, 1) := by decide +kernel
theorem d_Law_law_855 : decode code 855 = .ok (.aload_n 1, 1) := by decide +kernel
theorem d_Law_law_856 : decode code 856 = .ok (.invokevirtual 126, 3) := by decide +kernel
theorem d_Law_law_859 : decode code 859 = .ok (.aload_n 2, 1) := by decide +kernel
theorem d_Law_law_860 : decode code 860 = .ok (.invokevirtual 129, 3) := by decide +kernel
theorem d_Law_law_863 : decode code 863 = .ok (.if_icmp .eq 28, 3) := by decide +kernel
theorem d_Law_law_866 : decode code 866 = .ok (.iconst 0, 1) := by decide +kernel
theorem d_Law_law_867 : decode code 867 = .ok (.ireturn, 1) := by decide +kernel
theorem d_Law_law_868 : decode code 868 = .ok (.aload_n 1, 1) := by decide +kernel
theorem d_Law_law_869 : decode code 869 = .ok (.aload_n 0, 1) := by decide +kernel
theorem d_Law_law_870 : decode code 870 = .ok (.iload_n 3, 1) := by decide +kernel
theorem d_Law_law_871 : decode code 871 = .ok (.iconst 1, 1) := by decide +kernel
theorem d_Law_law_872 : decode code 872 = .ok (.iadd, 1) := by decide +kernel
theorem d_Law_law_873 : decode code 873 = .ok (.iaload, 1) := by decide +kernel
theorem d_Law_law_874 : decode code 874 = .ok (.invokevirtual 130, 3) := by decide +kernel
theorem d_Law_law_877 : decode code 877 = .ok (.aload_n 2, 1) := by decide +kernel
theorem d_Law_law_878 : decode code 878 = .ok (.aload_n 0, 1) := by decide +kernel
theorem d_Law_law_879 : decode code 879 = .ok (.iload_n 3, 1) := by decide +kernel
theorem d_Law_law_880 : decode code 880 = .ok (.iconst 1, 1) := by decide +kernel
theorem d_Law_law_881 : decode code 881 = .ok (.iadd, 1) := by decide +kernel
theorem d_Law_law_882 : decode code 882 = .ok (.iaload, 1) := by decide +kernel
theorem d_Law_law_883 : decode code 883 = .ok (.invokevirtual 133, 3) := by decide +kernel
theorem d_Law_law_886 : decode code 886 = .ok (.if_icmp .eq 5, 3) := by decide +kernel
theorem d_Law_law_889 : decode code 889 = .ok (.iconst 0, 1) := by decide +kernel
theorem d_Law_law_890 : decode code 890 = .ok (.ireturn, 1) := by decide +kernel
theorem d_Law_law_891 : decode code 891 = .ok (.iinc 3 5, 3) := by decide +kernel
theorem d_Law_law_894 : decode code 894 = .ok (.goto (-876), 3) := by decide +kernel
theorem d_Law_law_897 : decode code 897 = .ok (.iconst 1, 1) := by decide +kernel
theorem d_Law_law_898 : decode code 898 = .ok (.ireturn, 1) := by decide +kernel
